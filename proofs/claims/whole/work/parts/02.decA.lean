theorem dX0_init_0 : decode cX0_init 0 = .ok (.aload_n 0, 1) := by decide +kernel
theorem dX0_init_1 : decode cX0_init 1 = .ok (.invokespecial 3, 3) := by decide +kernel
theorem dX0_init_4 : decode cX0_init 4 = .ok (.aload_n 0, 1) := by decide +kernel
theorem dX0_init_5 : decode cX0_init 5 = .ok (.bipush 7, 2) := by decide +kernel
theorem dX0_init_7 : decode cX0_init 7 = .ok (.newarray .int, 2) := by decide +kernel
theorem dX0_init_9 : decode cX0_init 9 = .ok (.putfield 9, 3) := by decide +kernel
theorem dX0_init_12 : decode cX0_init 12 = .ok (.aload_n 0, 1) := by decide +kernel
theorem dX0_init_13 : decode cX0_init 13 = .ok (.bipush 7, 2) := by decide +kernel
theorem dX0_init_15 : decode cX0_init 15 = .ok (.newarray .long, 2) := by decide +kernel
theorem dX0_init_17 : decode cX0_init 17 = .ok (.putfield 15, 3) := by decide +kernel
theorem dX0_init_20 : decode cX0_init 20 = .ok (.aload_n 0, 1) := by decide +kernel
theorem dX0_init_21 : decode cX0_init 21 = .ok (.bipush 7, 2) := by decide +kernel
theorem dX0_init_23 : decode cX0_init 23 = .ok (.newarray .long, 2) := by decide +kernel
theorem dX0_init_25 : decode cX0_init 25 = .ok (.putfield 19, 3) := by decide +kernel
theorem dX0_init_28 : decode cX0_init 28 = .ok (.aload_n 0, 1) := by decide +kernel
theorem dX0_init_29 : decode cX0_init 29 = .ok (.bipush 7, 2) := by decide +kernel
theorem dX0_init_31 : decode cX0_init 31 = .ok (.newarray .int, 2) := by decide +kernel
theorem dX0_init_33 : decode cX0_init 33 = .ok (.putfield 22, 3) := by decide +kernel
theorem dX0_init_36 : decode cX0_init 36 = .ok (.aload_n 0, 1) := by decide +kernel
theorem dX0_init_37 : decode cX0_init 37 = .ok (.new 25, 3) := by decide +kernel
theorem dX0_init_40 : decode cX0_init 40 = .ok (.dup, 1) := by decide +kernel
theorem dX0_init_41 : decode cX0_init 41 = .ok (.invokespecial 27, 3) := by decide +kernel
theorem dX0_init_44 : decode cX0_init 44 = .ok (.putfield 28, 3) := by decide +kernel
theorem dX0_init_47 : decode cX0_init 47 = .ok (.aload_n 0, 1) := by decide +kernel
theorem dX0_init_48 : decode cX0_init 48 = .ok (.new 32, 3) := by decide +kernel
theorem dX0_init_51 : decode cX0_init 51 = .ok (.dup, 1) := by decide +kernel
theorem dX0_init_52 : decode cX0_init 52 = .ok (.invokespecial 34, 3) := by decide +kernel
theorem dX0_init_55 : decode cX0_init 55 = .ok (.putfield 35, 3) := by decide +kernel
theorem dX0_init_58 : decode cX0_init 58 = .ok (.aload_n 0, 1) := by decide +kernel
theorem dX0_init_59 : decode cX0_init 59 = .ok (.new 39, 3) := by decide +kernel
theorem dX0_init_62 : decode cX0_init 62 = .ok (.dup, 1) := by decide +kernel
theorem dX0_init_63 : decode cX0_init 63 = .ok (.invokespecial 41, 3) := by decide +kernel
theorem dX0_init_66 : decode cX0_init 66 = .ok (.putfield 42, 3) := by decide +kernel
theorem dX0_init_69 : decode cX0_init 69 = .ok (.return_, 1) := by decide +kernel
theorem dX0_from_0 : decode cX0_from 0 = .ok (.aload_n 0, 1) := by decide +kernel
theorem dX0_from_1 : decode cX0_from 1 = .ok (.aload_n 1, 1) := by decide +kernel
theorem dX0_from_2 : decode cX0_from 2 = .ok (.putfield 42, 3) := by decide +kernel
theorem dX0_from_5 : decode cX0_from 5 = .ok (.aload_n 0, 1) := by decide +kernel
theorem dX0_from_6 : decode cX0_from 6 = .ok (.getfield 35, 3) := by decide +kernel
theorem dX0_from_9 : decode cX0_from 9 = .ok (.aload_n 2, 1) := by decide +kernel
theorem dX0_from_10 : decode cX0_from 10 = .ok (.invokevirtual 46, 3) := by decide +kernel
theorem dX0_from_13 : decode cX0_from 13 = .ok (.aload_n 0, 1) := by decide +kernel
theorem dX0_from_14 : decode cX0_from 14 = .ok (.getfield 35, 3) := by decide +kernel
theorem dX0_from_17 : decode cX0_from 17 = .ok (.areturn, 1) := by decide +kernel
theorem dX0_pass_0 : decode cX0_pass 0 = .ok (.aload_n 0, 1) := by decide +kernel
theorem dX0_pass_1 : decode cX0_pass 1 = .ok (.aload_n 1, 1) := by decide +kernel
theorem dX0_pass_2 : decode cX0_pass 2 = .ok (.aload_n 2, 1) := by decide +kernel
theorem dX0_pass_3 : decode cX0_pass 3 = .ok (.invokevirtual 50, 3) := by decide +kernel
theorem dX0_pass_6 : decode cX0_pass 6 = .ok (.iconst 0, 1) := by decide +kernel
theorem dX0_pass_7 : decode cX0_pass 7 = .ok (.istore 4, 2) := by decide +kernel
theorem dX0_pass_9 : decode cX0_pass 9 = .ok (.iload 4, 2) := by decide +kernel
theorem dX0_pass_11 : decode cX0_pass 11 = .ok (.aload_n 2, 1) := by decide +kernel
theorem dX0_pass_12 : decode cX0_pass 12 = .ok (.getfield 54, 3) := by decide +kernel
theorem dX0_pass_15 : decode cX0_pass 15 = .ok (.if_icmp .ge 51, 3) := by decide +kernel
theorem dX0_pass_18 : decode cX0_pass 18 = .ok (.iload 4, 2) := by decide +kernel
theorem dX0_pass_20 : decode cX0_pass 20 = .ok (.bipush 7, 2) := by decide +kernel
theorem dX0_pass_22 : decode cX0_pass 22 = .ok (.if_icmp .ge 44, 3) := by decide +kernel
theorem dX0_pass_25 : decode cX0_pass 25 = .ok (.aload_n 2, 1) := by decide +kernel
theorem dX0_pass_26 : decode cX0_pass 26 = .ok (.getfield 58, 3) := by decide +kernel
theorem dX0_pass_29 : decode cX0_pass 29 = .ok (.iload 4, 2) := by decide +kernel
theorem dX0_pass_31 : decode cX0_pass 31 = .ok (.aload_n 2, 1) := by decide +kernel
theorem dX0_pass_32 : decode cX0_pass 32 = .ok (.getfield 58, 3) := by decide +kernel
theorem dX0_pass_35 : decode cX0_pass 35 = .ok (.iload 4, 2) := by decide +kernel
theorem dX0_pass_37 : decode cX0_pass 37 = .ok (.iaload, 1) := by decide +kernel
theorem dX0_pass_38 : decode cX0_pass 38 = .ok (.aload_n 0, 1) := by decide +kernel
theorem dX0_pass_39 : decode cX0_pass 39 = .ok (.aload_n 1, 1) := by decide +kernel
theorem dX0_pass_40 : decode cX0_pass 40 = .ok (.aload_n 2, 1) := by decide +kernel
theorem dX0_pass_41 : decode cX0_pass 41 = .ok (.iload 4, 2) := by decide +kernel
theorem dX0_pass_43 : decode cX0_pass 43 = .ok (.aload_n 2, 1) := by decide +kernel
theorem dX0_pass_44 : decode cX0_pass 44 = .ok (.getfield 58, 3) := by decide +kernel
theorem dX0_pass_47 : decode cX0_pass 47 = .ok (.iload 4, 2) := by decide +kernel
theorem dX0_pass_49 : decode cX0_pass 49 = .ok (.iaload, 1) := by decide +kernel
theorem dX0_pass_50 : decode cX0_pass 50 = .ok (.invokevirtual 61, 3) := by decide +kernel
theorem dX0_pass_53 : decode cX0_pass 53 = .ok (.iadd, 1) := by decide +kernel
theorem dX0_pass_54 : decode cX0_pass 54 = .ok (.ldc 65, 2) := by decide +kernel
theorem dX0_pass_56 : decode cX0_pass 56 = .ok (.invokestatic 66, 3) := by decide +kernel
theorem dX0_pass_59 : decode cX0_pass 59 = .ok (.iastore, 1) := by decide +kernel
theorem dX0_pass_60 : decode cX0_pass 60 = .ok (.iinc 4 1, 3) := by decide +kernel
theorem dX0_pass_63 : decode cX0_pass 63 = .ok (.goto (-54), 3) := by decide +kernel
theorem dX0_pass_66 : decode cX0_pass 66 = .ok (.aload_n 0, 1) := by decide +kernel
theorem dX0_pass_67 : decode cX0_pass 67 = .ok (.aload_n 1, 1) := by decide +kernel
theorem dX0_pass_68 : decode cX0_pass 68 = .ok (.aload_n 2, 1) := by decide +kernel
theorem dX0_pass_69 : decode cX0_pass 69 = .ok (.invokevirtual 72, 3) := by decide +kernel
theorem dX0_pass_72 : decode cX0_pass 72 = .ok (.aload_n 0, 1) := by decide +kernel
theorem dX0_pass_73 : decode cX0_pass 73 = .ok (.iconst 0, 1) := by decide +kernel
theorem dX0_pass_74 : decode cX0_pass 74 = .ok (.putfield 75, 3) := by decide +kernel
theorem dX0_pass_77 : decode cX0_pass 77 = .ok (.iconst 0, 1) := by decide +kernel
theorem dX0_pass_78 : decode cX0_pass 78 = .ok (.istore 4, 2) := by decide +kernel
theorem dX0_pass_80 : decode cX0_pass 80 = .ok (.iload 4, 2) := by decide +kernel
theorem dX0_pass_82 : decode cX0_pass 82 = .ok (.aload_n 2, 1) := by decide +kernel
theorem dX0_pass_83 : decode cX0_pass 83 = .ok (.getfield 54, 3) := by decide +kernel
theorem dX0_pass_86 : decode cX0_pass 86 = .ok (.if_icmp .ge 73, 3) := by decide +kernel
theorem dX0_pass_89 : decode cX0_pass 89 = .ok (.iload 4, 2) := by decide +kernel
theorem dX0_pass_91 : decode cX0_pass 91 = .ok (.bipush 7, 2) := by decide +kernel
theorem dX0_pass_93 : decode cX0_pass 93 = .ok (.if_icmp .ge 66, 3) := by decide +kernel
theorem dX0_pass_96 : decode cX0_pass 96 = .ok (.aload_n 2, 1) := by decide +kernel
theorem dX0_pass_97 : decode cX0_pass 97 = .ok (.getfield 78, 3) := by decide +kernel
theorem dX0_pass_100 : decode cX0_pass 100 = .ok (.iload 4, 2) := by decide +kernel
theorem dX0_pass_102 : decode cX0_pass 102 = .ok (.iaload, 1) := by decide +kernel
theorem dX0_pass_103 : decode cX0_pass 103 = .ok (.ifCond .ne 30, 3) := by decide +kernel
theorem dX0_pass_106 : decode cX0_pass 106 = .ok (.aload_n 2, 1) := by decide +kernel
theorem dX0_pass_107 : decode cX0_pass 107 = .ok (.getfield 58, 3) := by decide +kernel
theorem dX0_pass_110 : decode cX0_pass 110 = .ok (.iload 4, 2) := by decide +kernel
theorem dX0_pass_112 : decode cX0_pass 112 = .ok (.iaload, 1) := by decide +kernel
theorem dX0_pass_113 : decode cX0_pass 113 = .ok (.iload_n 3, 1) := by decide +kernel
theorem dX0_pass_114 : decode cX0_pass 114 = .ok (.if_icmp .le 19, 3) := by decide +kernel
theorem dX0_pass_117 : decode cX0_pass 117 = .ok (.aload_n 2, 1) := by decide +kernel
theorem dX0_pass_118 : decode cX0_pass 118 = .ok (.iload 4, 2) := by decide +kernel
theorem dX0_pass_120 : decode cX0_pass 120 = .ok (.invokevirtual 81, 3) := by decide +kernel
theorem dX0_pass_123 : decode cX0_pass 123 = .ok (.aload_n 0, 1) := by decide +kernel
theorem dX0_pass_124 : decode cX0_pass 124 = .ok (.dup, 1) := by decide +kernel
theorem dX0_pass_125 : decode cX0_pass 125 = .ok (.getfield 75, 3) := by decide +kernel
theorem dX0_pass_128 : decode cX0_pass 128 = .ok (.iconst 1, 1) := by decide +kernel
theorem dX0_pass_129 : decode cX0_pass 129 = .ok (.iadd, 1) := by decide +kernel
theorem dX0_pass_130 : decode cX0_pass 130 = .ok (.putfield 75, 3) := by decide +kernel
theorem dX0_pass_133 : decode cX0_pass 133 = .ok (.aload_n 2, 1) := by decide +kernel
theorem dX0_pass_134 : decode cX0_pass 134 = .ok (.getfield 85, 3) := by decide +kernel
theorem dX0_pass_137 : decode cX0_pass 137 = .ok (.iload 4, 2) := by decide +kernel
theorem dX0_pass_139 : decode cX0_pass 139 = .ok (.aload_n 2, 1) := by decide +kernel
theorem dX0_pass_140 : decode cX0_pass 140 = .ok (.getfield 85, 3) := by decide +kernel
theorem dX0_pass_143 : decode cX0_pass 143 = .ok (.iload 4, 2) := by decide +kernel
theorem dX0_pass_145 : decode cX0_pass 145 = .ok (.iaload, 1) := by decide +kernel
theorem dX0_pass_146 : decode cX0_pass 146 = .ok (.iconst 1, 1) := by decide +kernel
theorem dX0_pass_147 : decode cX0_pass 147 = .ok (.isub, 1) := by decide +kernel
theorem dX0_pass_148 : decode cX0_pass 148 = .ok (.iconst 0, 1) := by decide +kernel
theorem dX0_pass_149 : decode cX0_pass 149 = .ok (.invokestatic 88, 3) := by decide +kernel
theorem dX0_pass_152 : decode cX0_pass 152 = .ok (.iastore, 1) := by decide +kernel
theorem dX0_pass_153 : decode cX0_pass 153 = .ok (.iinc 4 1, 3) := by decide +kernel
theorem dX0_pass_156 : decode cX0_pass 156 = .ok (.goto (-76), 3) := by decide +kernel
theorem dX0_pass_159 : decode cX0_pass 159 = .ok (.aload_n 2, 1) := by decide +kernel
theorem dX0_pass_160 : decode cX0_pass 160 = .ok (.dup, 1) := by decide +kernel
theorem dX0_pass_161 : decode cX0_pass 161 = .ok (.getfield 91, 3) := by decide +kernel
theorem dX0_pass_164 : decode cX0_pass 164 = .ok (.iconst 1, 1) := by decide +kernel
theorem dX0_pass_165 : decode cX0_pass 165 = .ok (.iadd, 1) := by decide +kernel
theorem dX0_pass_166 : decode cX0_pass 166 = .ok (.putfield 91, 3) := by decide +kernel
theorem dX0_pass_169 : decode cX0_pass 169 = .ok (.return_, 1) := by decide +kernel
theorem dX0_settle_0 : decode cX0_settle 0 = .ok (.aload_n 0, 1) := by decide +kernel
theorem dX0_settle_1 : decode cX0_settle 1 = .ok (.iconst 0, 1) := by decide +kernel
theorem dX0_settle_2 : decode cX0_settle 2 = .ok (.putfield 94, 3) := by decide +kernel
theorem dX0_settle_5 : decode cX0_settle 5 = .ok (.iconst 0, 1) := by decide +kernel
theorem dX0_settle_6 : decode cX0_settle 6 = .ok (.istore_n 3, 1) := by decide +kernel
theorem dX0_settle_7 : decode cX0_settle 7 = .ok (.iload_n 3, 1) := by decide +kernel
theorem dX0_settle_8 : decode cX0_settle 8 = .ok (.aload_n 2, 1) := by decide +kernel
theorem dX0_settle_9 : decode cX0_settle 9 = .ok (.getfield 54, 3) := by decide +kernel
theorem dX0_settle_12 : decode cX0_settle 12 = .ok (.if_icmp .ge 135, 3) := by decide +kernel
theorem dX0_settle_15 : decode cX0_settle 15 = .ok (.iload_n 3, 1) := by decide +kernel
theorem dX0_settle_16 : decode cX0_settle 16 = .ok (.bipush 7, 2) := by decide +kernel
theorem dX0_settle_18 : decode cX0_settle 18 = .ok (.if_icmp .ge 129, 3) := by decide +kernel
theorem dX0_settle_21 : decode cX0_settle 21 = .ok (.aload_n 2, 1) := by decide +kernel
theorem dX0_settle_22 : decode cX0_settle 22 = .ok (.getfield 78, 3) := by decide +kernel
theorem dX0_settle_25 : decode cX0_settle 25 = .ok (.iload_n 3, 1) := by decide +kernel
theorem dX0_settle_26 : decode cX0_settle 26 = .ok (.iaload, 1) := by decide +kernel
theorem dX0_settle_27 : decode cX0_settle 27 = .ok (.ifCond .ne 114, 3) := by decide +kernel
theorem dX0_settle_30 : decode cX0_settle 30 = .ok (.aload_n 2, 1) := by decide +kernel
theorem dX0_settle_31 : decode cX0_settle 31 = .ok (.getfield 97, 3) := by decide +kernel
theorem dX0_settle_34 : decode cX0_settle 34 = .ok (.iload_n 3, 1) := by decide +kernel
theorem dX0_settle_35 : decode cX0_settle 35 = .ok (.iaload, 1) := by decide +kernel
theorem dX0_settle_36 : decode cX0_settle 36 = .ok (.aload_n 2, 1) := by decide +kernel
theorem dX0_settle_37 : decode cX0_settle 37 = .ok (.getfield 100, 3) := by decide +kernel
theorem dX0_settle_40 : decode cX0_settle 40 = .ok (.iload_n 3, 1) := by decide +kernel
theorem dX0_settle_41 : decode cX0_settle 41 = .ok (.iaload, 1) := by decide +kernel
theorem dX0_settle_42 : decode cX0_settle 42 = .ok (.iadd, 1) := by decide +kernel
theorem dX0_settle_43 : decode cX0_settle 43 = .ok (.aload_n 2, 1) := by decide +kernel
theorem dX0_settle_44 : decode cX0_settle 44 = .ok (.getfield 103, 3) := by decide +kernel
theorem dX0_settle_47 : decode cX0_settle 47 = .ok (.iload_n 3, 1) := by decide +kernel
theorem dX0_settle_48 : decode cX0_settle 48 = .ok (.iaload, 1) := by decide +kernel
theorem dX0_settle_49 : decode cX0_settle 49 = .ok (.isub, 1) := by decide +kernel
theorem dX0_settle_50 : decode cX0_settle 50 = .ok (.istore 4, 2) := by decide +kernel
theorem dX0_settle_52 : decode cX0_settle 52 = .ok (.iload 4, 2) := by decide +kernel
theorem dX0_settle_54 : decode cX0_settle 54 = .ok (.ifCond .ge 20, 3) := by decide +kernel
theorem dX0_settle_57 : decode cX0_settle 57 = .ok (.aload_n 2, 1) := by decide +kernel
theorem dX0_settle_58 : decode cX0_settle 58 = .ok (.getfield 58, 3) := by decide +kernel
theorem dX0_settle_61 : decode cX0_settle 61 = .ok (.iload_n 3, 1) := by decide +kernel
theorem dX0_settle_62 : decode cX0_settle 62 = .ok (.iaload, 1) := by decide +kernel
theorem dX0_settle_63 : decode cX0_settle 63 = .ok (.iload 4, 2) := by decide +kernel
theorem dX0_settle_65 : decode cX0_settle 65 = .ok (.isub, 1) := by decide +kernel
theorem dX0_settle_66 : decode cX0_settle 66 = .ok (.ldc 65, 2) := by decide +kernel
theorem dX0_settle_68 : decode cX0_settle 68 = .ok (.invokestatic 66, 3) := by decide +kernel
theorem dX0_settle_71 : decode cX0_settle 71 = .ok (.goto 9, 3) := by decide +kernel
theorem dX0_settle_74 : decode cX0_settle 74 = .ok (.aload_n 2, 1) := by decide +kernel
theorem dX0_settle_75 : decode cX0_settle 75 = .ok (.getfield 58, 3) := by decide +kernel
theorem dX0_settle_78 : decode cX0_settle 78 = .ok (.iload_n 3, 1) := by decide +kernel
theorem dX0_settle_79 : decode cX0_settle 79 = .ok (.iaload, 1) := by decide +kernel
theorem dX0_settle_80 : decode cX0_settle 80 = .ok (.istore 5, 2) := by decide +kernel
theorem dX0_settle_82 : decode cX0_settle 82 = .ok (.iload 4, 2) := by decide +kernel
theorem dX0_settle_84 : decode cX0_settle 84 = .ok (.ldc 65, 2) := by decide +kernel
theorem dX0_settle_86 : decode cX0_settle 86 = .ok (.invokestatic 66, 3) := by decide +kernel
theorem dX0_settle_89 : decode cX0_settle 89 = .ok (.iconst 0, 1) := by decide +kernel
theorem dX0_settle_90 : decode cX0_settle 90 = .ok (.invokestatic 88, 3) := by decide +kernel
theorem dX0_settle_93 : decode cX0_settle 93 = .ok (.istore 4, 2) := by decide +kernel
theorem dX0_settle_95 : decode cX0_settle 95 = .ok (.aload_n 0, 1) := by decide +kernel
theorem dX0_settle_96 : decode cX0_settle 96 = .ok (.aload_n 1, 1) := by decide +kernel
theorem dX0_settle_97 : decode cX0_settle 97 = .ok (.aload_n 2, 1) := by decide +kernel
theorem dX0_settle_98 : decode cX0_settle 98 = .ok (.iload_n 3, 1) := by decide +kernel
theorem dX0_settle_99 : decode cX0_settle 99 = .ok (.iload 4, 2) := by decide +kernel
theorem dX0_settle_101 : decode cX0_settle 101 = .ok (.iload 5, 2) := by decide +kernel
theorem dX0_settle_103 : decode cX0_settle 103 = .ok (.invokevirtual 106, 3) := by decide +kernel
theorem dX0_settle_106 : decode cX0_settle 106 = .ok (.istore 6, 2) := by decide +kernel
theorem dX0_settle_108 : decode cX0_settle 108 = .ok (.aload_n 2, 1) := by decide +kernel
theorem dX0_settle_109 : decode cX0_settle 109 = .ok (.getfield 97, 3) := by decide +kernel
theorem dX0_settle_112 : decode cX0_settle 112 = .ok (.iload_n 3, 1) := by decide +kernel
theorem dX0_settle_113 : decode cX0_settle 113 = .ok (.iload 4, 2) := by decide +kernel
theorem dX0_settle_115 : decode cX0_settle 115 = .ok (.iload 6, 2) := by decide +kernel
theorem dX0_settle_117 : decode cX0_settle 117 = .ok (.isub, 1) := by decide +kernel
theorem dX0_settle_118 : decode cX0_settle 118 = .ok (.iastore, 1) := by decide +kernel
theorem dX0_settle_119 : decode cX0_settle 119 = .ok (.aload_n 2, 1) := by decide +kernel
theorem dX0_settle_120 : decode cX0_settle 120 = .ok (.getfield 58, 3) := by decide +kernel
theorem dX0_settle_123 : decode cX0_settle 123 = .ok (.iload_n 3, 1) := by decide +kernel
theorem dX0_settle_124 : decode cX0_settle 124 = .ok (.iload 5, 2) := by decide +kernel
theorem dX0_settle_126 : decode cX0_settle 126 = .ok (.iload 6, 2) := by decide +kernel
theorem dX0_settle_128 : decode cX0_settle 128 = .ok (.isub, 1) := by decide +kernel
theorem dX0_settle_129 : decode cX0_settle 129 = .ok (.iastore, 1) := by decide +kernel
theorem dX0_settle_130 : decode cX0_settle 130 = .ok (.aload_n 0, 1) := by decide +kernel
theorem dX0_settle_131 : decode cX0_settle 131 = .ok (.dup, 1) := by decide +kernel
theorem dX0_settle_132 : decode cX0_settle 132 = .ok (.getfield 94, 3) := by decide +kernel
theorem dX0_settle_135 : decode cX0_settle 135 = .ok (.iload 6, 2) := by decide +kernel
theorem dX0_settle_137 : decode cX0_settle 137 = .ok (.iadd, 1) := by decide +kernel
theorem dX0_settle_138 : decode cX0_settle 138 = .ok (.putfield 94, 3) := by decide +kernel
theorem dX0_settle_141 : decode cX0_settle 141 = .ok (.iinc 3 1, 3) := by decide +kernel
theorem dX0_settle_144 : decode cX0_settle 144 = .ok (.goto (-137), 3) := by decide +kernel
theorem dX0_settle_147 : decode cX0_settle 147 = .ok (.return_, 1) := by decide +kernel
theorem dX0_payment_0 : decode cX0_payment 0 = .ok (.iload 4, 2) := by decide +kernel
theorem dX0_payment_2 : decode cX0_payment 2 = .ok (.iload 5, 2) := by decide +kernel
theorem dX0_payment_4 : decode cX0_payment 4 = .ok (.invokestatic 66, 3) := by decide +kernel
theorem dX0_payment_7 : decode cX0_payment 7 = .ok (.istore 6, 2) := by decide +kernel
theorem dX0_payment_9 : decode cX0_payment 9 = .ok (.aload_n 1, 1) := by decide +kernel
theorem dX0_payment_10 : decode cX0_payment 10 = .ok (.getfield 110, 3) := by decide +kernel
theorem dX0_payment_13 : decode cX0_payment 13 = .ok (.arraylength, 1) := by decide +kernel
theorem dX0_payment_14 : decode cX0_payment 14 = .ok (.ifCond .eq 16, 3) := by decide +kernel
theorem dX0_payment_17 : decode cX0_payment 17 = .ok (.iload 6, 2) := by decide +kernel
theorem dX0_payment_19 : decode cX0_payment 19 = .ok (.ifCond .eq 11, 3) := by decide +kernel
theorem dX0_payment_22 : decode cX0_payment 22 = .ok (.aload_n 2, 1) := by decide +kernel
theorem dX0_payment_23 : decode cX0_payment 23 = .ok (.iload_n 3, 1) := by decide +kernel
theorem dX0_payment_24 : decode cX0_payment 24 = .ok (.invokevirtual 113, 3) := by decide +kernel
theorem dX0_payment_27 : decode cX0_payment 27 = .ok (.ifCond .ne 6, 3) := by decide +kernel
theorem dX0_payment_30 : decode cX0_payment 30 = .ok (.iload 6, 2) := by decide +kernel
theorem dX0_payment_32 : decode cX0_payment 32 = .ok (.ireturn, 1) := by decide +kernel
theorem dX0_payment_33 : decode cX0_payment 33 = .ok (.aload_n 0, 1) := by decide +kernel
theorem dX0_payment_34 : decode cX0_payment 34 = .ok (.getfield 28, 3) := by decide +kernel
theorem dX0_payment_37 : decode cX0_payment 37 = .ok (.iload 5, 2) := by decide +kernel
theorem dX0_payment_39 : decode cX0_payment 39 = .ok (.iload_n 3, 1) := by decide +kernel
theorem dX0_payment_40 : decode cX0_payment 40 = .ok (.aload_n 2, 1) := by decide +kernel
theorem dX0_payment_41 : decode cX0_payment 41 = .ok (.getfield 91, 3) := by decide +kernel
theorem dX0_payment_44 : decode cX0_payment 44 = .ok (.iload 4, 2) := by decide +kernel
theorem dX0_payment_46 : decode cX0_payment 46 = .ok (.invokevirtual 117, 3) := by decide +kernel
theorem dX0_payment_49 : decode cX0_payment 49 = .ok (.aload_n 0, 1) := by decide +kernel
theorem dX0_payment_50 : decode cX0_payment 50 = .ok (.getfield 28, 3) := by decide +kernel
theorem dX0_payment_53 : decode cX0_payment 53 = .ok (.getfield 121, 3) := by decide +kernel
theorem dX0_payment_56 : decode cX0_payment 56 = .ok (.iconst 4, 1) := by decide +kernel
theorem dX0_payment_57 : decode cX0_payment 57 = .ok (.aload_n 2, 1) := by decide +kernel
theorem dX0_payment_58 : decode cX0_payment 58 = .ok (.getfield 100, 3) := by decide +kernel
theorem dX0_payment_61 : decode cX0_payment 61 = .ok (.iload_n 3, 1) := by decide +kernel
theorem dX0_payment_62 : decode cX0_payment 62 = .ok (.iaload, 1) := by decide +kernel
theorem dX0_payment_63 : decode cX0_payment 63 = .ok (.iastore, 1) := by decide +kernel
theorem dX0_payment_64 : decode cX0_payment 64 = .ok (.aload_n 0, 1) := by decide +kernel
theorem dX0_payment_65 : decode cX0_payment 65 = .ok (.getfield 28, 3) := by decide +kernel
theorem dX0_payment_68 : decode cX0_payment 68 = .ok (.getfield 121, 3) := by decide +kernel
theorem dX0_payment_71 : decode cX0_payment 71 = .ok (.iconst 5, 1) := by decide +kernel
theorem dX0_payment_72 : decode cX0_payment 72 = .ok (.aload_n 2, 1) := by decide +kernel
theorem dX0_payment_73 : decode cX0_payment 73 = .ok (.getfield 103, 3) := by decide +kernel
theorem dX0_payment_76 : decode cX0_payment 76 = .ok (.iload_n 3, 1) := by decide +kernel
theorem dX0_payment_77 : decode cX0_payment 77 = .ok (.iaload, 1) := by decide +kernel
theorem dX0_payment_78 : decode cX0_payment 78 = .ok (.iastore, 1) := by decide +kernel
theorem dX0_payment_79 : decode cX0_payment 79 = .ok (.aload_n 0, 1) := by decide +kernel
theorem dX0_payment_80 : decode cX0_payment 80 = .ok (.getfield 28, 3) := by decide +kernel
theorem dX0_payment_83 : decode cX0_payment 83 = .ok (.aload_n 1, 1) := by decide +kernel
theorem dX0_payment_84 : decode cX0_payment 84 = .ok (.getfield 110, 3) := by decide +kernel
theorem dX0_payment_87 : decode cX0_payment 87 = .ok (.invokevirtual 124, 3) := by decide +kernel
theorem dX0_payment_90 : decode cX0_payment 90 = .ok (.iload 6, 2) := by decide +kernel
theorem dX0_payment_92 : decode cX0_payment 92 = .ok (.invokestatic 66, 3) := by decide +kernel
theorem dX0_payment_95 : decode cX0_payment 95 = .ok (.iconst 0, 1) := by decide +kernel
theorem dX0_payment_96 : decode cX0_payment 96 = .ok (.invokestatic 88, 3) := by decide +kernel
theorem dX0_payment_99 : decode cX0_payment 99 = .ok (.ireturn, 1) := by decide +kernel
theorem dX0_growth_0 : decode cX0_growth 0 = .ok (.aload_n 1, 1) := by decide +kernel
theorem dX0_growth_1 : decode cX0_growth 1 = .ok (.getfield 128, 3) := by decide +kernel
theorem dX0_growth_4 : decode cX0_growth 4 = .ok (.arraylength, 1) := by decide +kernel
theorem dX0_growth_5 : decode cX0_growth 5 = .ok (.ifCond .eq 8, 3) := by decide +kernel
theorem dX0_growth_8 : decode cX0_growth 8 = .ok (.iload 4, 2) := by decide +kernel
theorem dX0_growth_10 : decode cX0_growth 10 = .ok (.ifCond .ne 5, 3) := by decide +kernel
theorem dX0_growth_13 : decode cX0_growth 13 = .ok (.iconst 0, 1) := by decide +kernel
theorem dX0_growth_14 : decode cX0_growth 14 = .ok (.ireturn, 1) := by decide +kernel
theorem dX0_growth_15 : decode cX0_growth 15 = .ok (.aload_n 0, 1) := by decide +kernel
theorem dX0_growth_16 : decode cX0_growth 16 = .ok (.getfield 28, 3) := by decide +kernel
theorem dX0_growth_19 : decode cX0_growth 19 = .ok (.iload 4, 2) := by decide +kernel
theorem dX0_growth_21 : decode cX0_growth 21 = .ok (.iload_n 3, 1) := by decide +kernel
theorem dX0_growth_22 : decode cX0_growth 22 = .ok (.aload_n 2, 1) := by decide +kernel
theorem dX0_growth_23 : decode cX0_growth 23 = .ok (.getfield 91, 3) := by decide +kernel
theorem dX0_growth_26 : decode cX0_growth 26 = .ok (.iconst 0, 1) := by decide +kernel
theorem dX0_growth_27 : decode cX0_growth 27 = .ok (.invokevirtual 117, 3) := by decide +kernel
theorem dX0_growth_30 : decode cX0_growth 30 = .ok (.aload_n 0, 1) := by decide +kernel
theorem dX0_growth_31 : decode cX0_growth 31 = .ok (.getfield 28, 3) := by decide +kernel
theorem dX0_growth_34 : decode cX0_growth 34 = .ok (.aload_n 1, 1) := by decide +kernel
theorem dX0_growth_35 : decode cX0_growth 35 = .ok (.getfield 128, 3) := by decide +kernel
theorem dX0_growth_38 : decode cX0_growth 38 = .ok (.invokevirtual 124, 3) := by decide +kernel
theorem dX0_growth_41 : decode cX0_growth 41 = .ok (.sipush 999, 3) := by decide +kernel
theorem dX0_growth_44 : decode cX0_growth 44 = .ok (.invokestatic 66, 3) := by decide +kernel
theorem dX0_growth_47 : decode cX0_growth 47 = .ok (.iconst 0, 1) := by decide +kernel
theorem dX0_growth_48 : decode cX0_growth 48 = .ok (.invokestatic 88, 3) := by decide +kernel
theorem dX0_growth_51 : decode cX0_growth 51 = .ok (.ireturn, 1) := by decide +kernel
theorem dX0_taking_0 : decode cX0_taking 0 = .ok (.aload_n 1, 1) := by decide +kernel
theorem dX0_taking_1 : decode cX0_taking 1 = .ok (.iload_n 3, 1) := by decide +kernel
theorem dX0_taking_2 : decode cX0_taking 2 = .ok (.aload_n 2, 1) := by decide +kernel
theorem dX0_taking_3 : decode cX0_taking 3 = .ok (.getfield 54, 3) := by decide +kernel
theorem dX0_taking_6 : decode cX0_taking 6 = .ok (.invokevirtual 131, 3) := by decide +kernel
theorem dX0_taking_9 : decode cX0_taking 9 = .ok (.istore 5, 2) := by decide +kernel
theorem dX0_taking_11 : decode cX0_taking 11 = .ok (.aload_n 1, 1) := by decide +kernel
theorem dX0_taking_12 : decode cX0_taking 12 = .ok (.getfield 134, 3) := by decide +kernel
theorem dX0_taking_15 : decode cX0_taking 15 = .ok (.arraylength, 1) := by decide +kernel
theorem dX0_taking_16 : decode cX0_taking 16 = .ok (.ifCond .eq 12, 3) := by decide +kernel
theorem dX0_taking_19 : decode cX0_taking 19 = .ok (.aload_n 2, 1) := by decide +kernel
theorem dX0_taking_20 : decode cX0_taking 20 = .ok (.iload 5, 2) := by decide +kernel
theorem dX0_taking_22 : decode cX0_taking 22 = .ok (.invokevirtual 113, 3) := by decide +kernel
theorem dX0_taking_25 : decode cX0_taking 25 = .ok (.ifCond .ne 5, 3) := by decide +kernel
theorem dX0_taking_28 : decode cX0_taking 28 = .ok (.iconst 1, 1) := by decide +kernel
theorem dX0_taking_29 : decode cX0_taking 29 = .ok (.ireturn, 1) := by decide +kernel
theorem dX0_taking_30 : decode cX0_taking 30 = .ok (.aload_n 0, 1) := by decide +kernel
theorem dX0_taking_31 : decode cX0_taking 31 = .ok (.getfield 28, 3) := by decide +kernel
theorem dX0_taking_34 : decode cX0_taking 34 = .ok (.iload 4, 2) := by decide +kernel
theorem dX0_taking_36 : decode cX0_taking 36 = .ok (.iload 5, 2) := by decide +kernel
theorem dX0_taking_38 : decode cX0_taking 38 = .ok (.aload_n 2, 1) := by decide +kernel
theorem dX0_taking_39 : decode cX0_taking 39 = .ok (.getfield 91, 3) := by decide +kernel
theorem dX0_taking_42 : decode cX0_taking 42 = .ok (.aload_n 2, 1) := by decide +kernel
theorem dX0_taking_43 : decode cX0_taking 43 = .ok (.getfield 97, 3) := by decide +kernel
theorem dX0_taking_46 : decode cX0_taking 46 = .ok (.iload 5, 2) := by decide +kernel
theorem dX0_taking_48 : decode cX0_taking 48 = .ok (.iaload, 1) := by decide +kernel
theorem dX0_taking_49 : decode cX0_taking 49 = .ok (.invokevirtual 117, 3) := by decide +kernel
theorem dX0_taking_52 : decode cX0_taking 52 = .ok (.aload_n 0, 1) := by decide +kernel
theorem dX0_taking_53 : decode cX0_taking 53 = .ok (.getfield 28, 3) := by decide +kernel
theorem dX0_taking_56 : decode cX0_taking 56 = .ok (.getfield 121, 3) := by decide +kernel
theorem dX0_taking_59 : decode cX0_taking 59 = .ok (.bipush 6, 2) := by decide +kernel
theorem dX0_taking_61 : decode cX0_taking 61 = .ok (.aload_n 2, 1) := by decide +kernel
theorem dX0_taking_62 : decode cX0_taking 62 = .ok (.getfield 58, 3) := by decide +kernel
theorem dX0_taking_65 : decode cX0_taking 65 = .ok (.iload 5, 2) := by decide +kernel
theorem dX0_taking_67 : decode cX0_taking 67 = .ok (.iaload, 1) := by decide +kernel
theorem dX0_taking_68 : decode cX0_taking 68 = .ok (.iastore, 1) := by decide +kernel
theorem dX0_taking_69 : decode cX0_taking 69 = .ok (.aload_n 0, 1) := by decide +kernel
theorem dX0_taking_70 : decode cX0_taking 70 = .ok (.getfield 28, 3) := by decide +kernel
theorem dX0_taking_73 : decode cX0_taking 73 = .ok (.aload_n 1, 1) := by decide +kernel
theorem dX0_taking_74 : decode cX0_taking 74 = .ok (.getfield 134, 3) := by decide +kernel
theorem dX0_taking_77 : decode cX0_taking 77 = .ok (.invokevirtual 124, 3) := by decide +kernel
theorem dX0_taking_80 : decode cX0_taking 80 = .ok (.iconst 1, 1) := by decide +kernel
theorem dX0_taking_81 : decode cX0_taking 81 = .ok (.if_icmp .ne 7, 3) := by decide +kernel
theorem dX0_taking_84 : decode cX0_taking 84 = .ok (.iconst 1, 1) := by decide +kernel
theorem dX0_taking_85 : decode cX0_taking 85 = .ok (.goto 4, 3) := by decide +kernel
theorem dX0_taking_88 : decode cX0_taking 88 = .ok (.iconst 0, 1) := by decide +kernel
theorem dX0_taking_89 : decode cX0_taking 89 = .ok (.ireturn, 1) := by decide +kernel
theorem dX0_move_0 : decode cX0_move 0 = .ok (.aload_n 0, 1) := by decide +kernel
theorem dX0_move_1 : decode cX0_move 1 = .ok (.getfield 9, 3) := by decide +kernel
theorem dX0_move_4 : decode cX0_move 4 = .ok (.iconst 0, 1) := by decide +kernel
theorem dX0_move_5 : decode cX0_move 5 = .ok (.invokestatic 137, 3) := by decide +kernel
theorem dX0_move_8 : decode cX0_move 8 = .ok (.iconst 0, 1) := by decide +kernel
theorem dX0_move_9 : decode cX0_move 9 = .ok (.istore_n 3, 1) := by decide +kernel
theorem dX0_move_10 : decode cX0_move 10 = .ok (.iload_n 3, 1) := by decide +kernel
theorem dX0_move_11 : decode cX0_move 11 = .ok (.aload_n 2, 1) := by decide +kernel
theorem dX0_move_12 : decode cX0_move 12 = .ok (.getfield 54, 3) := by decide +kernel
theorem dX0_move_15 : decode cX0_move 15 = .ok (.if_icmp .ge 155, 3) := by decide +kernel
theorem dX0_move_18 : decode cX0_move 18 = .ok (.iload_n 3, 1) := by decide +kernel
theorem dX0_move_19 : decode cX0_move 19 = .ok (.bipush 7, 2) := by decide +kernel
theorem dX0_move_21 : decode cX0_move 21 = .ok (.if_icmp .ge 149, 3) := by decide +kernel
theorem dX0_move_24 : decode cX0_move 24 = .ok (.aload_n 1, 1) := by decide +kernel
theorem dX0_move_25 : decode cX0_move 25 = .ok (.iload_n 3, 1) := by decide +kernel
theorem dX0_move_26 : decode cX0_move 26 = .ok (.aload_n 2, 1) := by decide +kernel
theorem dX0_move_27 : decode cX0_move 27 = .ok (.getfield 54, 3) := by decide +kernel
theorem dX0_move_30 : decode cX0_move 30 = .ok (.invokevirtual 131, 3) := by decide +kernel
theorem dX0_move_33 : decode cX0_move 33 = .ok (.istore 4, 2) := by decide +kernel
theorem dX0_move_35 : decode cX0_move 35 = .ok (.aload_n 2, 1) := by decide +kernel
theorem dX0_move_36 : decode cX0_move 36 = .ok (.iload 4, 2) := by decide +kernel
theorem dX0_move_38 : decode cX0_move 38 = .ok (.invokevirtual 113, 3) := by decide +kernel
theorem dX0_move_41 : decode cX0_move 41 = .ok (.ifCond .eq 17, 3) := by decide +kernel
theorem dX0_move_44 : decode cX0_move 44 = .ok (.aload_n 2, 1) := by decide +kernel
theorem dX0_move_45 : decode cX0_move 45 = .ok (.getfield 85, 3) := by decide +kernel
theorem dX0_move_48 : decode cX0_move 48 = .ok (.iload 4, 2) := by decide +kernel
theorem dX0_move_50 : decode cX0_move 50 = .ok (.iaload, 1) := by decide +kernel
theorem dX0_move_51 : decode cX0_move 51 = .ok (.ifCond .le 7, 3) := by decide +kernel
theorem dX0_move_54 : decode cX0_move 54 = .ok (.iconst 1, 1) := by decide +kernel
theorem dX0_move_55 : decode cX0_move 55 = .ok (.goto 4, 3) := by decide +kernel
theorem dX0_move_58 : decode cX0_move 58 = .ok (.iconst 0, 1) := by decide +kernel
theorem dX0_move_59 : decode cX0_move 59 = .ok (.istore 5, 2) := by decide +kernel
theorem dX0_move_61 : decode cX0_move 61 = .ok (.aload_n 2, 1) := by decide +kernel
theorem dX0_move_62 : decode cX0_move 62 = .ok (.getfield 58, 3) := by decide +kernel
theorem dX0_move_65 : decode cX0_move 65 = .ok (.iload_n 3, 1) := by decide +kernel
theorem dX0_move_66 : decode cX0_move 66 = .ok (.iaload, 1) := by decide +kernel
theorem dX0_move_67 : decode cX0_move 67 = .ok (.ifCond .le 28, 3) := by decide +kernel
theorem dX0_move_70 : decode cX0_move 70 = .ok (.iload 5, 2) := by decide +kernel
theorem dX0_move_72 : decode cX0_move 72 = .ok (.ifCond .ne 23, 3) := by decide +kernel
theorem dX0_move_75 : decode cX0_move 75 = .ok (.aload_n 0, 1) := by decide +kernel
theorem dX0_move_76 : decode cX0_move 76 = .ok (.aload_n 1, 1) := by decide +kernel
theorem dX0_move_77 : decode cX0_move 77 = .ok (.aload_n 2, 1) := by decide +kernel
theorem dX0_move_78 : decode cX0_move 78 = .ok (.iload_n 3, 1) := by decide +kernel
theorem dX0_move_79 : decode cX0_move 79 = .ok (.aload_n 2, 1) := by decide +kernel
theorem dX0_move_80 : decode cX0_move 80 = .ok (.getfield 58, 3) := by decide +kernel
theorem dX0_move_83 : decode cX0_move 83 = .ok (.iload_n 3, 1) := by decide +kernel
theorem dX0_move_84 : decode cX0_move 84 = .ok (.iaload, 1) := by decide +kernel
theorem dX0_move_85 : decode cX0_move 85 = .ok (.invokevirtual 143, 3) := by decide +kernel
theorem dX0_move_88 : decode cX0_move 88 = .ok (.ifCond .eq 7, 3) := by decide +kernel
theorem dX0_move_91 : decode cX0_move 91 = .ok (.iconst 1, 1) := by decide +kernel
theorem dX0_move_92 : decode cX0_move 92 = .ok (.goto 4, 3) := by decide +kernel
theorem dX0_move_95 : decode cX0_move 95 = .ok (.iconst 0, 1) := by decide +kernel
theorem dX0_move_96 : decode cX0_move 96 = .ok (.istore 6, 2) := by decide +kernel
theorem dX0_move_98 : decode cX0_move 98 = .ok (.aload_n 0, 1) := by decide +kernel
theorem dX0_move_99 : decode cX0_move 99 = .ok (.getfield 22, 3) := by decide +kernel
theorem dX0_move_102 : decode cX0_move 102 = .ok (.iload_n 3, 1) := by decide +kernel
theorem dX0_move_103 : decode cX0_move 103 = .ok (.iload 6, 2) := by decide +kernel
theorem dX0_move_105 : decode cX0_move 105 = .ok (.ifCond .eq 12, 3) := by decide +kernel
theorem dX0_move_108 : decode cX0_move 108 = .ok (.aload_n 2, 1) := by decide +kernel
theorem dX0_move_109 : decode cX0_move 109 = .ok (.getfield 58, 3) := by decide +kernel
theorem dX0_move_112 : decode cX0_move 112 = .ok (.iload_n 3, 1) := by decide +kernel
theorem dX0_move_113 : decode cX0_move 113 = .ok (.iaload, 1) := by decide +kernel
theorem dX0_move_114 : decode cX0_move 114 = .ok (.goto 4, 3) := by decide +kernel
theorem dX0_move_117 : decode cX0_move 117 = .ok (.iconst 0, 1) := by decide +kernel
theorem dX0_move_118 : decode cX0_move 118 = .ok (.iastore, 1) := by decide +kernel
theorem dX0_move_119 : decode cX0_move 119 = .ok (.aload_n 2, 1) := by decide +kernel
theorem dX0_move_120 : decode cX0_move 120 = .ok (.iload 4, 2) := by decide +kernel
theorem dX0_move_122 : decode cX0_move 122 = .ok (.invokevirtual 113, 3) := by decide +kernel
theorem dX0_move_125 : decode cX0_move 125 = .ok (.ifCond .eq 19, 3) := by decide +kernel
theorem dX0_move_128 : decode cX0_move 128 = .ok (.aload_n 0, 1) := by decide +kernel
theorem dX0_move_129 : decode cX0_move 129 = .ok (.getfield 9, 3) := by decide +kernel
theorem dX0_move_132 : decode cX0_move 132 = .ok (.iload 4, 2) := by decide +kernel
theorem dX0_move_134 : decode cX0_move 134 = .ok (.aload_n 0, 1) := by decide +kernel
theorem dX0_move_135 : decode cX0_move 135 = .ok (.getfield 22, 3) := by decide +kernel
theorem dX0_move_138 : decode cX0_move 138 = .ok (.iload_n 3, 1) := by decide +kernel
theorem dX0_move_139 : decode cX0_move 139 = .ok (.iaload, 1) := by decide +kernel
theorem dX0_move_140 : decode cX0_move 140 = .ok (.iastore, 1) := by decide +kernel
theorem dX0_move_141 : decode cX0_move 141 = .ok (.goto 23, 3) := by decide +kernel
theorem dX0_move_144 : decode cX0_move 144 = .ok (.aload_n 2, 1) := by decide +kernel
theorem dX0_move_145 : decode cX0_move 145 = .ok (.aload_n 2, 1) := by decide +kernel
theorem dX0_move_146 : decode cX0_move 146 = .ok (.getfield 147, 3) := by decide +kernel
theorem dX0_move_149 : decode cX0_move 149 = .ok (.aload_n 0, 1) := by decide +kernel
theorem dX0_move_150 : decode cX0_move 150 = .ok (.getfield 22, 3) := by decide +kernel
theorem dX0_move_153 : decode cX0_move 153 = .ok (.iload_n 3, 1) := by decide +kernel
theorem dX0_move_154 : decode cX0_move 154 = .ok (.iaload, 1) := by decide +kernel
theorem dX0_move_155 : decode cX0_move 155 = .ok (.iadd, 1) := by decide +kernel
theorem dX0_move_156 : decode cX0_move 156 = .ok (.ldc 65, 2) := by decide +kernel
theorem dX0_move_158 : decode cX0_move 158 = .ok (.invokestatic 66, 3) := by decide +kernel
theorem dX0_move_161 : decode cX0_move 161 = .ok (.putfield 147, 3) := by decide +kernel
theorem dX0_move_164 : decode cX0_move 164 = .ok (.iinc 3 1, 3) := by decide +kernel
theorem dX0_move_167 : decode cX0_move 167 = .ok (.goto (-157), 3) := by decide +kernel
theorem dX0_move_170 : decode cX0_move 170 = .ok (.iconst 0, 1) := by decide +kernel
theorem dX0_move_171 : decode cX0_move 171 = .ok (.istore_n 3, 1) := by decide +kernel
theorem dX0_move_172 : decode cX0_move 172 = .ok (.iload_n 3, 1) := by decide +kernel
theorem dX0_move_173 : decode cX0_move 173 = .ok (.aload_n 2, 1) := by decide +kernel
theorem dX0_move_174 : decode cX0_move 174 = .ok (.getfield 54, 3) := by decide +kernel
theorem dX0_move_177 : decode cX0_move 177 = .ok (.if_icmp .ge 46, 3) := by decide +kernel
theorem dX0_move_180 : decode cX0_move 180 = .ok (.iload_n 3, 1) := by decide +kernel
theorem dX0_move_181 : decode cX0_move 181 = .ok (.bipush 7, 2) := by decide +kernel
theorem dX0_move_183 : decode cX0_move 183 = .ok (.if_icmp .ge 40, 3) := by decide +kernel
theorem dX0_move_186 : decode cX0_move 186 = .ok (.aload_n 2, 1) := by decide +kernel
theorem dX0_move_187 : decode cX0_move 187 = .ok (.getfield 58, 3) := by decide +kernel
theorem dX0_move_190 : decode cX0_move 190 = .ok (.iload_n 3, 1) := by decide +kernel
theorem dX0_move_191 : decode cX0_move 191 = .ok (.aload_n 2, 1) := by decide +kernel
theorem dX0_move_192 : decode cX0_move 192 = .ok (.getfield 58, 3) := by decide +kernel
theorem dX0_move_195 : decode cX0_move 195 = .ok (.iload_n 3, 1) := by decide +kernel
theorem dX0_move_196 : decode cX0_move 196 = .ok (.iaload, 1) := by decide +kernel
theorem dX0_move_197 : decode cX0_move 197 = .ok (.aload_n 0, 1) := by decide +kernel
theorem dX0_move_198 : decode cX0_move 198 = .ok (.getfield 22, 3) := by decide +kernel
theorem dX0_move_201 : decode cX0_move 201 = .ok (.iload_n 3, 1) := by decide +kernel
theorem dX0_move_202 : decode cX0_move 202 = .ok (.iaload, 1) := by decide +kernel
theorem dX0_move_203 : decode cX0_move 203 = .ok (.isub, 1) := by decide +kernel
theorem dX0_move_204 : decode cX0_move 204 = .ok (.aload_n 0, 1) := by decide +kernel
theorem dX0_move_205 : decode cX0_move 205 = .ok (.getfield 9, 3) := by decide +kernel
theorem dX0_move_208 : decode cX0_move 208 = .ok (.iload_n 3, 1) := by decide +kernel
theorem dX0_move_209 : decode cX0_move 209 = .ok (.iaload, 1) := by decide +kernel
theorem dX0_move_210 : decode cX0_move 210 = .ok (.iadd, 1) := by decide +kernel
theorem dX0_move_211 : decode cX0_move 211 = .ok (.ldc 65, 2) := by decide +kernel
theorem dX0_move_213 : decode cX0_move 213 = .ok (.invokestatic 66, 3) := by decide +kernel
theorem dX0_move_216 : decode cX0_move 216 = .ok (.iastore, 1) := by decide +kernel
theorem dX0_move_217 : decode cX0_move 217 = .ok (.iinc 3 1, 3) := by decide +kernel
theorem dX0_move_220 : decode cX0_move 220 = .ok (.goto (-48), 3) := by decide +kernel
theorem dX0_move_223 : decode cX0_move 223 = .ok (.return_, 1) := by decide +kernel
theorem dX0_losses_0 : decode cX0_losses 0 = .ok (.iconst 0, 1) := by decide +kernel
theorem dX0_losses_1 : decode cX0_losses 1 = .ok (.istore_n 3, 1) := by decide +kernel
theorem dX0_losses_2 : decode cX0_losses 2 = .ok (.iconst 0, 1) := by decide +kernel
theorem dX0_losses_3 : decode cX0_losses 3 = .ok (.istore 4, 2) := by decide +kernel
theorem dX0_losses_5 : decode cX0_losses 5 = .ok (.iload 4, 2) := by decide +kernel
theorem dX0_losses_7 : decode cX0_losses 7 = .ok (.iload_n 1, 1) := by decide +kernel
theorem dX0_losses_8 : decode cX0_losses 8 = .ok (.if_icmp .ge 40, 3) := by decide +kernel
theorem dX0_losses_11 : decode cX0_losses 11 = .ok (.iload_n 3, 1) := by decide +kernel
theorem dX0_losses_12 : decode cX0_losses 12 = .ok (.iload_n 2, 1) := by decide +kernel
theorem dX0_losses_13 : decode cX0_losses 13 = .ok (.if_icmp .gt 35, 3) := by decide +kernel
theorem dX0_losses_16 : decode cX0_losses 16 = .ok (.aload_n 0, 1) := by decide +kernel
theorem dX0_losses_17 : decode cX0_losses 17 = .ok (.aload_n 0, 1) := by decide +kernel
theorem dX0_losses_18 : decode cX0_losses 18 = .ok (.getfield 42, 3) := by decide +kernel
theorem dX0_losses_21 : decode cX0_losses 21 = .ok (.aload_n 0, 1) := by decide +kernel
theorem dX0_losses_22 : decode cX0_losses 22 = .ok (.getfield 35, 3) := by decide +kernel
theorem dX0_losses_25 : decode cX0_losses 25 = .ok (.aload_n 0, 1) := by decide +kernel
theorem dX0_losses_26 : decode cX0_losses 26 = .ok (.getfield 42, 3) := by decide +kernel
theorem dX0_losses_29 : decode cX0_losses 29 = .ok (.getfield 150, 3) := by decide +kernel
theorem dX0_losses_32 : decode cX0_losses 32 = .ok (.invokevirtual 153, 3) := by decide +kernel
theorem dX0_losses_35 : decode cX0_losses 35 = .ok (.iload_n 3, 1) := by decide +kernel
theorem dX0_losses_36 : decode cX0_losses 36 = .ok (.aload_n 0, 1) := by decide +kernel
theorem dX0_losses_37 : decode cX0_losses 37 = .ok (.getfield 75, 3) := by decide +kernel
theorem dX0_losses_40 : decode cX0_losses 40 = .ok (.iadd, 1) := by decide +kernel
theorem dX0_losses_41 : decode cX0_losses 41 = .ok (.istore_n 3, 1) := by decide +kernel
theorem dX0_losses_42 : decode cX0_losses 42 = .ok (.iinc 4 1, 3) := by decide +kernel
theorem dX0_losses_45 : decode cX0_losses 45 = .ok (.goto (-40), 3) := by decide +kernel
theorem dX0_losses_48 : decode cX0_losses 48 = .ok (.iload_n 3, 1) := by decide +kernel
theorem dX0_losses_49 : decode cX0_losses 49 = .ok (.ireturn, 1) := by decide +kernel
theorem dX0_ruins_0 : decode cX0_ruins 0 = .ok (.iconst 0, 1) := by decide +kernel
theorem dX0_ruins_1 : decode cX0_ruins 1 = .ok (.istore_n 3, 1) := by decide +kernel
theorem dX0_ruins_2 : decode cX0_ruins 2 = .ok (.iload_n 3, 1) := by decide +kernel
theorem dX0_ruins_3 : decode cX0_ruins 3 = .ok (.iload_n 2, 1) := by decide +kernel
theorem dX0_ruins_4 : decode cX0_ruins 4 = .ok (.if_icmp .ge 39, 3) := by decide +kernel
theorem dX0_ruins_7 : decode cX0_ruins 7 = .ok (.aload_n 0, 1) := by decide +kernel
theorem dX0_ruins_8 : decode cX0_ruins 8 = .ok (.getfield 35, 3) := by decide +kernel
theorem dX0_ruins_11 : decode cX0_ruins 11 = .ok (.iload_n 1, 1) := by decide +kernel
theorem dX0_ruins_12 : decode cX0_ruins 12 = .ok (.invokevirtual 157, 3) := by decide +kernel
theorem dX0_ruins_15 : decode cX0_ruins 15 = .ok (.ifCond .ne 28, 3) := by decide +kernel
theorem dX0_ruins_18 : decode cX0_ruins 18 = .ok (.aload_n 0, 1) := by decide +kernel
theorem dX0_ruins_19 : decode cX0_ruins 19 = .ok (.aload_n 0, 1) := by decide +kernel
theorem dX0_ruins_20 : decode cX0_ruins 20 = .ok (.getfield 42, 3) := by decide +kernel
theorem dX0_ruins_23 : decode cX0_ruins 23 = .ok (.aload_n 0, 1) := by decide +kernel
theorem dX0_ruins_24 : decode cX0_ruins 24 = .ok (.getfield 35, 3) := by decide +kernel
theorem dX0_ruins_27 : decode cX0_ruins 27 = .ok (.aload_n 0, 1) := by decide +kernel
theorem dX0_ruins_28 : decode cX0_ruins 28 = .ok (.getfield 42, 3) := by decide +kernel
theorem dX0_ruins_31 : decode cX0_ruins 31 = .ok (.getfield 150, 3) := by decide +kernel
theorem dX0_ruins_34 : decode cX0_ruins 34 = .ok (.invokevirtual 153, 3) := by decide +kernel
theorem dX0_ruins_37 : decode cX0_ruins 37 = .ok (.iinc 3 1, 3) := by decide +kernel
theorem dX0_ruins_40 : decode cX0_ruins 40 = .ok (.goto (-38), 3) := by decide +kernel
theorem dX0_ruins_43 : decode cX0_ruins 43 = .ok (.aload_n 0, 1) := by decide +kernel
theorem dX0_ruins_44 : decode cX0_ruins 44 = .ok (.getfield 35, 3) := by decide +kernel
theorem dX0_ruins_47 : decode cX0_ruins 47 = .ok (.iload_n 1, 1) := by decide +kernel
theorem dX0_ruins_48 : decode cX0_ruins 48 = .ok (.invokevirtual 157, 3) := by decide +kernel
theorem dX0_ruins_51 : decode cX0_ruins 51 = .ok (.ireturn, 1) := by decide +kernel
theorem dX0_addBurdens_0 : decode cX0_addBurdens 0 = .ok (.aload_n 0, 1) := by decide +kernel
theorem dX0_addBurdens_1 : decode cX0_addBurdens 1 = .ok (.getfield 15, 3) := by decide +kernel
theorem dX0_addBurdens_4 : decode cX0_addBurdens 4 = .ok (.lconst 0, 1) := by decide +kernel
theorem dX0_addBurdens_5 : decode cX0_addBurdens 5 = .ok (.invokestatic 160, 3) := by decide +kernel
theorem dX0_addBurdens_8 : decode cX0_addBurdens 8 = .ok (.iconst 0, 1) := by decide +kernel
theorem dX0_addBurdens_9 : decode cX0_addBurdens 9 = .ok (.istore_n 2, 1) := by decide +kernel
theorem dX0_addBurdens_10 : decode cX0_addBurdens 10 = .ok (.iload_n 2, 1) := by decide +kernel
theorem dX0_addBurdens_11 : decode cX0_addBurdens 11 = .ok (.iload_n 1, 1) := by decide +kernel
theorem dX0_addBurdens_12 : decode cX0_addBurdens 12 = .ok (.if_icmp .ge 58, 3) := by decide +kernel
theorem dX0_addBurdens_15 : decode cX0_addBurdens 15 = .ok (.aload_n 0, 1) := by decide +kernel
theorem dX0_addBurdens_16 : decode cX0_addBurdens 16 = .ok (.aload_n 0, 1) := by decide +kernel
theorem dX0_addBurdens_17 : decode cX0_addBurdens 17 = .ok (.getfield 42, 3) := by decide +kernel
theorem dX0_addBurdens_20 : decode cX0_addBurdens 20 = .ok (.aload_n 0, 1) := by decide +kernel
theorem dX0_addBurdens_21 : decode cX0_addBurdens 21 = .ok (.getfield 35, 3) := by decide +kernel
theorem dX0_addBurdens_24 : decode cX0_addBurdens 24 = .ok (.aload_n 0, 1) := by decide +kernel
theorem dX0_addBurdens_25 : decode cX0_addBurdens 25 = .ok (.getfield 42, 3) := by decide +kernel
theorem dX0_addBurdens_28 : decode cX0_addBurdens 28 = .ok (.getfield 150, 3) := by decide +kernel
theorem dX0_addBurdens_31 : decode cX0_addBurdens 31 = .ok (.invokevirtual 153, 3) := by decide +kernel
theorem dX0_addBurdens_34 : decode cX0_addBurdens 34 = .ok (.iconst 0, 1) := by decide +kernel
theorem dX0_addBurdens_35 : decode cX0_addBurdens 35 = .ok (.istore_n 3, 1) := by decide +kernel
theorem dX0_addBurdens_36 : decode cX0_addBurdens 36 = .ok (.iload_n 3, 1) := by decide +kernel
theorem dX0_addBurdens_37 : decode cX0_addBurdens 37 = .ok (.bipush 7, 2) := by decide +kernel
theorem dX0_addBurdens_39 : decode cX0_addBurdens 39 = .ok (.if_icmp .ge 25, 3) := by decide +kernel
theorem dX0_addBurdens_42 : decode cX0_addBurdens 42 = .ok (.aload_n 0, 1) := by decide +kernel
theorem dX0_addBurdens_43 : decode cX0_addBurdens 43 = .ok (.getfield 15, 3) := by decide +kernel
theorem dX0_addBurdens_46 : decode cX0_addBurdens 46 = .ok (.iload_n 3, 1) := by decide +kernel
theorem dX0_addBurdens_47 : decode cX0_addBurdens 47 = .ok (.dup2, 1) := by decide +kernel
theorem dX0_addBurdens_48 : decode cX0_addBurdens 48 = .ok (.laload, 1) := by decide +kernel
theorem dX0_addBurdens_49 : decode cX0_addBurdens 49 = .ok (.aload_n 0, 1) := by decide +kernel
theorem dX0_addBurdens_50 : decode cX0_addBurdens 50 = .ok (.getfield 9, 3) := by decide +kernel
theorem dX0_addBurdens_53 : decode cX0_addBurdens 53 = .ok (.iload_n 3, 1) := by decide +kernel
theorem dX0_addBurdens_54 : decode cX0_addBurdens 54 = .ok (.iaload, 1) := by decide +kernel
theorem dX0_addBurdens_55 : decode cX0_addBurdens 55 = .ok (.i2l, 1) := by decide +kernel
theorem dX0_addBurdens_56 : decode cX0_addBurdens 56 = .ok (.ladd, 1) := by decide +kernel
theorem dX0_addBurdens_57 : decode cX0_addBurdens 57 = .ok (.lastore, 1) := by decide +kernel
theorem dX0_addBurdens_58 : decode cX0_addBurdens 58 = .ok (.iinc 3 1, 3) := by decide +kernel
theorem dX0_addBurdens_61 : decode cX0_addBurdens 61 = .ok (.goto (-25), 3) := by decide +kernel
theorem dX0_addBurdens_64 : decode cX0_addBurdens 64 = .ok (.iinc 2 1, 3) := by decide +kernel
theorem dX0_addBurdens_67 : decode cX0_addBurdens 67 = .ok (.goto (-57), 3) := by decide +kernel
theorem dX0_addBurdens_70 : decode cX0_addBurdens 70 = .ok (.return_, 1) := by decide +kernel
theorem dX0_keepBurdens_0 : decode cX0_keepBurdens 0 = .ok (.aload_n 0, 1) := by decide +kernel
theorem dX0_keepBurdens_1 : decode cX0_keepBurdens 1 = .ok (.getfield 15, 3) := by decide +kernel
theorem dX0_keepBurdens_4 : decode cX0_keepBurdens 4 = .ok (.iconst 0, 1) := by decide +kernel
theorem dX0_keepBurdens_5 : decode cX0_keepBurdens 5 = .ok (.aload_n 0, 1) := by decide +kernel
theorem dX0_keepBurdens_6 : decode cX0_keepBurdens 6 = .ok (.getfield 19, 3) := by decide +kernel
theorem dX0_keepBurdens_9 : decode cX0_keepBurdens 9 = .ok (.iconst 0, 1) := by decide +kernel
theorem dX0_keepBurdens_10 : decode cX0_keepBurdens 10 = .ok (.bipush 7, 2) := by decide +kernel
theorem dX0_keepBurdens_12 : decode cX0_keepBurdens 12 = .ok (.invokestatic 163, 3) := by decide +kernel
theorem dX0_keepBurdens_15 : decode cX0_keepBurdens 15 = .ok (.return_, 1) := by decide +kernel
theorem dX1_init_0 : decode cX1_init 0 = .ok (.aload_n 0, 1) := by decide +kernel
theorem dX1_init_1 : decode cX1_init 1 = .ok (.invokespecial 3, 3) := by decide +kernel
theorem dX1_init_4 : decode cX1_init 4 = .ok (.aload_n 0, 1) := by decide +kernel
theorem dX1_init_5 : decode cX1_init 5 = .ok (.sipush 693, 3) := by decide +kernel
theorem dX1_init_8 : decode cX1_init 8 = .ok (.newarray .int, 2) := by decide +kernel
theorem dX1_init_10 : decode cX1_init 10 = .ok (.putfield 9, 3) := by decide +kernel
theorem dX1_init_13 : decode cX1_init 13 = .ok (.aload_n 0, 1) := by decide +kernel
theorem dX1_init_14 : decode cX1_init 14 = .ok (.bipush 7, 2) := by decide +kernel
theorem dX1_init_16 : decode cX1_init 16 = .ok (.sipush 693, 3) := by decide +kernel
theorem dX1_init_19 : decode cX1_init 19 = .ok (.multianewarray 15 2, 4) := by decide +kernel
theorem dX1_init_23 : decode cX1_init 23 = .ok (.putfield 17, 3) := by decide +kernel
theorem dX1_init_26 : decode cX1_init 26 = .ok (.return_, 1) := by decide +kernel
theorem dX1_find_0 : decode cX1_find 0 = .ok (.aload_n 0, 1) := by decide +kernel
theorem dX1_find_1 : decode cX1_find 1 = .ok (.iconst 0, 1) := by decide +kernel
theorem dX1_find_2 : decode cX1_find 2 = .ok (.putfield 20, 3) := by decide +kernel
theorem dX1_find_5 : decode cX1_find 5 = .ok (.iconst 0, 1) := by decide +kernel
theorem dX1_find_6 : decode cX1_find 6 = .ok (.istore 5, 2) := by decide +kernel
theorem dX1_find_8 : decode cX1_find 8 = .ok (.iload 5, 2) := by decide +kernel
theorem dX1_find_10 : decode cX1_find 10 = .ok (.aload_n 0, 1) := by decide +kernel
theorem dX1_find_11 : decode cX1_find 11 = .ok (.getfield 9, 3) := by decide +kernel
theorem dX1_find_14 : decode cX1_find 14 = .ok (.arraylength, 1) := by decide +kernel
theorem dX1_find_15 : decode cX1_find 15 = .ok (.if_icmp .ge 102, 3) := by decide +kernel
theorem dX1_find_18 : decode cX1_find 18 = .ok (.iload 5, 2) := by decide +kernel
theorem dX1_find_20 : decode cX1_find 20 = .ok (.bipush 99, 2) := by decide +kernel
theorem dX1_find_22 : decode cX1_find 22 = .ok (.idiv, 1) := by decide +kernel
theorem dX1_find_23 : decode cX1_find 23 = .ok (.istore 6, 2) := by decide +kernel
theorem dX1_find_25 : decode cX1_find 25 = .ok (.iload 5, 2) := by decide +kernel
theorem dX1_find_27 : decode cX1_find 27 = .ok (.bipush 99, 2) := by decide +kernel
theorem dX1_find_29 : decode cX1_find 29 = .ok (.irem, 1) := by decide +kernel
theorem dX1_find_30 : decode cX1_find 30 = .ok (.iconst 1, 1) := by decide +kernel
theorem dX1_find_31 : decode cX1_find 31 = .ok (.iadd, 1) := by decide +kernel
theorem dX1_find_32 : decode cX1_find 32 = .ok (.istore 7, 2) := by decide +kernel
theorem dX1_find_34 : decode cX1_find 34 = .ok (.aload_n 2, 1) := by decide +kernel
theorem dX1_find_35 : decode cX1_find 35 = .ok (.getfield 24, 3) := by decide +kernel
theorem dX1_find_38 : decode cX1_find 38 = .ok (.iload 6, 2) := by decide +kernel
theorem dX1_find_40 : decode cX1_find 40 = .ok (.invokevirtual 30, 3) := by decide +kernel
theorem dX1_find_43 : decode cX1_find 43 = .ok (.ifCond .eq 68, 3) := by decide +kernel
theorem dX1_find_46 : decode cX1_find 46 = .ok (.aload_n 1, 1) := by decide +kernel
theorem dX1_find_47 : decode cX1_find 47 = .ok (.aload_n 2, 1) := by decide +kernel
theorem dX1_find_48 : decode cX1_find 48 = .ok (.aload_n 2, 1) := by decide +kernel
theorem dX1_find_49 : decode cX1_find 49 = .ok (.getfield 24, 3) := by decide +kernel
theorem dX1_find_52 : decode cX1_find 52 = .ok (.invokevirtual 36, 3) := by decide +kernel
theorem dX1_find_55 : decode cX1_find 55 = .ok (.astore 8, 2) := by decide +kernel
theorem dX1_find_57 : decode cX1_find 57 = .ok (.aload 8, 2) := by decide +kernel
theorem dX1_find_59 : decode cX1_find 59 = .ok (.getfield 42, 3) := by decide +kernel
theorem dX1_find_62 : decode cX1_find 62 = .ok (.iload 6, 2) := by decide +kernel
theorem dX1_find_64 : decode cX1_find 64 = .ok (.dup2, 1) := by decide +kernel
theorem dX1_find_65 : decode cX1_find 65 = .ok (.iaload, 1) := by decide +kernel
theorem dX1_find_66 : decode cX1_find 66 = .ok (.iload 7, 2) := by decide +kernel
theorem dX1_find_68 : decode cX1_find 68 = .ok (.iadd, 1) := by decide +kernel
theorem dX1_find_69 : decode cX1_find 69 = .ok (.iastore, 1) := by decide +kernel
theorem dX1_find_70 : decode cX1_find 70 = .ok (.aload_n 0, 1) := by decide +kernel
theorem dX1_find_71 : decode cX1_find 71 = .ok (.aload_n 1, 1) := by decide +kernel
theorem dX1_find_72 : decode cX1_find 72 = .ok (.aload_n 2, 1) := by decide +kernel
theorem dX1_find_73 : decode cX1_find 73 = .ok (.aload 8, 2) := by decide +kernel
theorem dX1_find_75 : decode cX1_find 75 = .ok (.aload_n 3, 1) := by decide +kernel
theorem dX1_find_76 : decode cX1_find 76 = .ok (.iload 4, 2) := by decide +kernel
theorem dX1_find_78 : decode cX1_find 78 = .ok (.invokevirtual 45, 3) := by decide +kernel
theorem dX1_find_81 : decode cX1_find 81 = .ok (.ifCond .eq 30, 3) := by decide +kernel
theorem dX1_find_84 : decode cX1_find 84 = .ok (.aload_n 1, 1) := by decide +kernel
theorem dX1_find_85 : decode cX1_find 85 = .ok (.aload_n 2, 1) := by decide +kernel
theorem dX1_find_86 : decode cX1_find 86 = .ok (.aload 8, 2) := by decide +kernel
theorem dX1_find_88 : decode cX1_find 88 = .ok (.aload_n 2, 1) := by decide +kernel
theorem dX1_find_89 : decode cX1_find 89 = .ok (.getfield 49, 3) := by decide +kernel
theorem dX1_find_92 : decode cX1_find 92 = .ok (.invokevirtual 52, 3) := by decide +kernel
theorem dX1_find_95 : decode cX1_find 95 = .ok (.aload_n 0, 1) := by decide +kernel
theorem dX1_find_96 : decode cX1_find 96 = .ok (.iload 6, 2) := by decide +kernel
theorem dX1_find_98 : decode cX1_find 98 = .ok (.bipush 100, 2) := by decide +kernel
theorem dX1_find_100 : decode cX1_find 100 = .ok (.imul, 1) := by decide +kernel
theorem dX1_find_101 : decode cX1_find 101 = .ok (.iload 7, 2) := by decide +kernel
theorem dX1_find_103 : decode cX1_find 103 = .ok (.iadd, 1) := by decide +kernel
theorem dX1_find_104 : decode cX1_find 104 = .ok (.aload_n 1, 1) := by decide +kernel
theorem dX1_find_105 : decode cX1_find 105 = .ok (.getfield 56, 3) := by decide +kernel
theorem dX1_find_108 : decode cX1_find 108 = .ok (.invokevirtual 59, 3) := by decide +kernel
theorem dX1_find_111 : decode cX1_find 111 = .ok (.iinc 5 1, 3) := by decide +kernel
theorem dX1_find_114 : decode cX1_find 114 = .ok (.goto (-106), 3) := by decide +kernel
theorem dX1_find_117 : decode cX1_find 117 = .ok (.return_, 1) := by decide +kernel
theorem dX1_fits_0 : decode cX1_fits 0 = .ok (.aload_n 3, 1) := by decide +kernel
theorem dX1_fits_1 : decode cX1_fits 1 = .ok (.iload 5, 2) := by decide +kernel
theorem dX1_fits_3 : decode cX1_fits 3 = .ok (.invokevirtual 30, 3) := by decide +kernel
theorem dX1_fits_6 : decode cX1_fits 6 = .ok (.ifCond .ne 5, 3) := by decide +kernel
theorem dX1_fits_9 : decode cX1_fits 9 = .ok (.iconst 0, 1) := by decide +kernel
theorem dX1_fits_10 : decode cX1_fits 10 = .ok (.ireturn, 1) := by decide +kernel
theorem dX1_fits_11 : decode cX1_fits 11 = .ok (.iconst 0, 1) := by decide +kernel
theorem dX1_fits_12 : decode cX1_fits 12 = .ok (.istore 6, 2) := by decide +kernel
theorem dX1_fits_14 : decode cX1_fits 14 = .ok (.iload 6, 2) := by decide +kernel
theorem dX1_fits_16 : decode cX1_fits 16 = .ok (.aload 4, 2) := by decide +kernel
theorem dX1_fits_18 : decode cX1_fits 18 = .ok (.getfield 63, 3) := by decide +kernel
theorem dX1_fits_21 : decode cX1_fits 21 = .ok (.if_icmp .ge 54, 3) := by decide +kernel
theorem dX1_fits_24 : decode cX1_fits 24 = .ok (.aload_n 1, 1) := by decide +kernel
theorem dX1_fits_25 : decode cX1_fits 25 = .ok (.aload_n 2, 1) := by decide +kernel
theorem dX1_fits_26 : decode cX1_fits 26 = .ok (.aload_n 3, 1) := by decide +kernel
theorem dX1_fits_27 : decode cX1_fits 27 = .ok (.aload_n 2, 1) := by decide +kernel
theorem dX1_fits_28 : decode cX1_fits 28 = .ok (.getfield 49, 3) := by decide +kernel
theorem dX1_fits_31 : decode cX1_fits 31 = .ok (.invokevirtual 52, 3) := by decide +kernel
theorem dX1_fits_34 : decode cX1_fits 34 = .ok (.aload 4, 2) := by decide +kernel
theorem dX1_fits_36 : decode cX1_fits 36 = .ok (.iload 6, 2) := by decide +kernel
theorem dX1_fits_38 : decode cX1_fits 38 = .ok (.invokevirtual 68, 3) := by decide +kernel
theorem dX1_fits_41 : decode cX1_fits 41 = .ok (.ldc2_w 72, 3) := by decide +kernel
theorem dX1_fits_44 : decode cX1_fits 44 = .ok (.lcmp, 1) := by decide +kernel
theorem dX1_fits_45 : decode cX1_fits 45 = .ok (.ifCond .eq 24, 3) := by decide +kernel
theorem dX1_fits_48 : decode cX1_fits 48 = .ok (.aload 4, 2) := by decide +kernel
theorem dX1_fits_50 : decode cX1_fits 50 = .ok (.iload 6, 2) := by decide +kernel
theorem dX1_fits_52 : decode cX1_fits 52 = .ok (.invokevirtual 68, 3) := by decide +kernel
theorem dX1_fits_55 : decode cX1_fits 55 = .ok (.aload_n 1, 1) := by decide +kernel
theorem dX1_fits_56 : decode cX1_fits 56 = .ok (.getfield 56, 3) := by decide +kernel
theorem dX1_fits_59 : decode cX1_fits 59 = .ok (.iload 5, 2) := by decide +kernel
theorem dX1_fits_61 : decode cX1_fits 61 = .ok (.iaload, 1) := by decide +kernel
theorem dX1_fits_62 : decode cX1_fits 62 = .ok (.i2l, 1) := by decide +kernel
theorem dX1_fits_63 : decode cX1_fits 63 = .ok (.lcmp, 1) := by decide +kernel
theorem dX1_fits_64 : decode cX1_fits 64 = .ok (.ifCond .eq 5, 3) := by decide +kernel
theorem dX1_fits_67 : decode cX1_fits 67 = .ok (.iconst 0, 1) := by decide +kernel
theorem dX1_fits_68 : decode cX1_fits 68 = .ok (.ireturn, 1) := by decide +kernel
theorem dX1_fits_69 : decode cX1_fits 69 = .ok (.iinc 6 1, 3) := by decide +kernel
theorem dX1_fits_72 : decode cX1_fits 72 = .ok (.goto (-58), 3) := by decide +kernel
theorem dX1_fits_75 : decode cX1_fits 75 = .ok (.iconst 1, 1) := by decide +kernel
theorem dX1_fits_76 : decode cX1_fits 76 = .ok (.ireturn, 1) := by decide +kernel
theorem dX1_note_0 : decode cX1_note 0 = .ok (.aload_n 0, 1) := by decide +kernel
theorem dX1_note_1 : decode cX1_note 1 = .ok (.getfield 20, 3) := by decide +kernel
theorem dX1_note_4 : decode cX1_note 4 = .ok (.ifCond .lt 69, 3) := by decide +kernel
theorem dX1_note_7 : decode cX1_note 7 = .ok (.aload_n 0, 1) := by decide +kernel
theorem dX1_note_8 : decode cX1_note 8 = .ok (.getfield 20, 3) := by decide +kernel
theorem dX1_note_11 : decode cX1_note 11 = .ok (.aload_n 0, 1) := by decide +kernel
theorem dX1_note_12 : decode cX1_note 12 = .ok (.getfield 9, 3) := by decide +kernel
theorem dX1_note_15 : decode cX1_note 15 = .ok (.arraylength, 1) := by decide +kernel
theorem dX1_note_16 : decode cX1_note 16 = .ok (.if_icmp .ge 57, 3) := by decide +kernel
theorem dX1_note_19 : decode cX1_note 19 = .ok (.aload_n 0, 1) := by decide +kernel
theorem dX1_note_20 : decode cX1_note 20 = .ok (.getfield 9, 3) := by decide +kernel
theorem dX1_note_23 : decode cX1_note 23 = .ok (.aload_n 0, 1) := by decide +kernel
theorem dX1_note_24 : decode cX1_note 24 = .ok (.getfield 20, 3) := by decide +kernel
theorem dX1_note_27 : decode cX1_note 27 = .ok (.iload_n 1, 1) := by decide +kernel
theorem dX1_note_28 : decode cX1_note 28 = .ok (.iastore, 1) := by decide +kernel
theorem dX1_note_29 : decode cX1_note 29 = .ok (.iconst 0, 1) := by decide +kernel
theorem dX1_note_30 : decode cX1_note 30 = .ok (.istore_n 3, 1) := by decide +kernel
theorem dX1_note_31 : decode cX1_note 31 = .ok (.iload_n 3, 1) := by decide +kernel
theorem dX1_note_32 : decode cX1_note 32 = .ok (.bipush 7, 2) := by decide +kernel
theorem dX1_note_34 : decode cX1_note 34 = .ok (.if_icmp .ge 29, 3) := by decide +kernel
theorem dX1_note_37 : decode cX1_note 37 = .ok (.iload_n 3, 1) := by decide +kernel
theorem dX1_note_38 : decode cX1_note 38 = .ok (.aload_n 2, 1) := by decide +kernel
theorem dX1_note_39 : decode cX1_note 39 = .ok (.arraylength, 1) := by decide +kernel
theorem dX1_note_40 : decode cX1_note 40 = .ok (.if_icmp .ge 23, 3) := by decide +kernel
theorem dX1_note_43 : decode cX1_note 43 = .ok (.aload_n 0, 1) := by decide +kernel
theorem dX1_note_44 : decode cX1_note 44 = .ok (.getfield 17, 3) := by decide +kernel
theorem dX1_note_47 : decode cX1_note 47 = .ok (.iload_n 3, 1) := by decide +kernel
theorem dX1_note_48 : decode cX1_note 48 = .ok (.aaload, 1) := by decide +kernel
theorem dX1_note_49 : decode cX1_note 49 = .ok (.aload_n 0, 1) := by decide +kernel
theorem dX1_note_50 : decode cX1_note 50 = .ok (.getfield 20, 3) := by decide +kernel
theorem dX1_note_53 : decode cX1_note 53 = .ok (.aload_n 2, 1) := by decide +kernel
theorem dX1_note_54 : decode cX1_note 54 = .ok (.iload_n 3, 1) := by decide +kernel
theorem dX1_note_55 : decode cX1_note 55 = .ok (.iaload, 1) := by decide +kernel
theorem dX1_note_56 : decode cX1_note 56 = .ok (.iastore, 1) := by decide +kernel
theorem dX1_note_57 : decode cX1_note 57 = .ok (.iinc 3 1, 3) := by decide +kernel
theorem dX1_note_60 : decode cX1_note 60 = .ok (.goto (-29), 3) := by decide +kernel
theorem dX1_note_63 : decode cX1_note 63 = .ok (.aload_n 0, 1) := by decide +kernel
theorem dX1_note_64 : decode cX1_note 64 = .ok (.dup, 1) := by decide +kernel
theorem dX1_note_65 : decode cX1_note 65 = .ok (.getfield 20, 3) := by decide +kernel
theorem dX1_note_68 : decode cX1_note 68 = .ok (.iconst 1, 1) := by decide +kernel
theorem dX1_note_69 : decode cX1_note 69 = .ok (.iadd, 1) := by decide +kernel
theorem dX1_note_70 : decode cX1_note 70 = .ok (.putfield 20, 3) := by decide +kernel
theorem dX1_note_73 : decode cX1_note 73 = .ok (.return_, 1) := by decide +kernel
theorem dX1_tellingMost_0 : decode cX1_tellingMost 0 = .ok (.iconst (-1), 1) := by decide +kernel
theorem dX1_tellingMost_1 : decode cX1_tellingMost 1 = .ok (.istore_n 2, 1) := by decide +kernel
theorem dX1_tellingMost_2 : decode cX1_tellingMost 2 = .ok (.aload_n 0, 1) := by decide +kernel
theorem dX1_tellingMost_3 : decode cX1_tellingMost 3 = .ok (.getfield 9, 3) := by decide +kernel
theorem dX1_tellingMost_6 : decode cX1_tellingMost 6 = .ok (.arraylength, 1) := by decide +kernel
theorem dX1_tellingMost_7 : decode cX1_tellingMost 7 = .ok (.iconst 1, 1) := by decide +kernel
theorem dX1_tellingMost_8 : decode cX1_tellingMost 8 = .ok (.iadd, 1) := by decide +kernel
theorem dX1_tellingMost_9 : decode cX1_tellingMost 9 = .ok (.istore_n 3, 1) := by decide +kernel
theorem dX1_tellingMost_10 : decode cX1_tellingMost 10 = .ok (.iconst 0, 1) := by decide +kernel
theorem dX1_tellingMost_11 : decode cX1_tellingMost 11 = .ok (.istore 4, 2) := by decide +kernel
theorem dX1_tellingMost_13 : decode cX1_tellingMost 13 = .ok (.iload 4, 2) := by decide +kernel
theorem dX1_tellingMost_15 : decode cX1_tellingMost 15 = .ok (.iload_n 1, 1) := by decide +kernel
theorem dX1_tellingMost_16 : decode cX1_tellingMost 16 = .ok (.if_icmp .ge 60, 3) := by decide +kernel
theorem dX1_tellingMost_19 : decode cX1_tellingMost 19 = .ok (.iload 4, 2) := by decide +kernel
theorem dX1_tellingMost_21 : decode cX1_tellingMost 21 = .ok (.bipush 7, 2) := by decide +kernel
theorem dX1_tellingMost_23 : decode cX1_tellingMost 23 = .ok (.if_icmp .ge 53, 3) := by decide +kernel
theorem dX1_tellingMost_26 : decode cX1_tellingMost 26 = .ok (.aload_n 0, 1) := by decide +kernel
theorem dX1_tellingMost_27 : decode cX1_tellingMost 27 = .ok (.getfield 20, 3) := by decide +kernel
theorem dX1_tellingMost_30 : decode cX1_tellingMost 30 = .ok (.ifCond .le 46, 3) := by decide +kernel
theorem dX1_tellingMost_33 : decode cX1_tellingMost 33 = .ok (.aload_n 0, 1) := by decide +kernel
theorem dX1_tellingMost_34 : decode cX1_tellingMost 34 = .ok (.aload_n 0, 1) := by decide +kernel
theorem dX1_tellingMost_35 : decode cX1_tellingMost 35 = .ok (.getfield 17, 3) := by decide +kernel
theorem dX1_tellingMost_38 : decode cX1_tellingMost 38 = .ok (.iload 4, 2) := by decide +kernel
theorem dX1_tellingMost_40 : decode cX1_tellingMost 40 = .ok (.aaload, 1) := by decide +kernel
theorem dX1_tellingMost_41 : decode cX1_tellingMost 41 = .ok (.aload_n 0, 1) := by decide +kernel
theorem dX1_tellingMost_42 : decode cX1_tellingMost 42 = .ok (.getfield 20, 3) := by decide +kernel
theorem dX1_tellingMost_45 : decode cX1_tellingMost 45 = .ok (.aload_n 0, 1) := by decide +kernel
theorem dX1_tellingMost_46 : decode cX1_tellingMost 46 = .ok (.getfield 9, 3) := by decide +kernel
theorem dX1_tellingMost_49 : decode cX1_tellingMost 49 = .ok (.arraylength, 1) := by decide +kernel
theorem dX1_tellingMost_50 : decode cX1_tellingMost 50 = .ok (.invokestatic 74, 3) := by decide +kernel
theorem dX1_tellingMost_53 : decode cX1_tellingMost 53 = .ok (.invokevirtual 80, 3) := by decide +kernel
theorem dX1_tellingMost_56 : decode cX1_tellingMost 56 = .ok (.istore 5, 2) := by decide +kernel
theorem dX1_tellingMost_58 : decode cX1_tellingMost 58 = .ok (.iload 5, 2) := by decide +kernel
theorem dX1_tellingMost_60 : decode cX1_tellingMost 60 = .ok (.iload_n 3, 1) := by decide +kernel
theorem dX1_tellingMost_61 : decode cX1_tellingMost 61 = .ok (.if_icmp .ge 9, 3) := by decide +kernel
theorem dX1_tellingMost_64 : decode cX1_tellingMost 64 = .ok (.iload 5, 2) := by decide +kernel
theorem dX1_tellingMost_66 : decode cX1_tellingMost 66 = .ok (.istore_n 3, 1) := by decide +kernel
theorem dX1_tellingMost_67 : decode cX1_tellingMost 67 = .ok (.iload 4, 2) := by decide +kernel
theorem dX1_tellingMost_69 : decode cX1_tellingMost 69 = .ok (.istore_n 2, 1) := by decide +kernel
theorem dX1_tellingMost_70 : decode cX1_tellingMost 70 = .ok (.iinc 4 1, 3) := by decide +kernel
theorem dX1_tellingMost_73 : decode cX1_tellingMost 73 = .ok (.goto (-60), 3) := by decide +kernel
theorem dX1_tellingMost_76 : decode cX1_tellingMost 76 = .ok (.iload_n 2, 1) := by decide +kernel
theorem dX1_tellingMost_77 : decode cX1_tellingMost 77 = .ok (.ireturn, 1) := by decide +kernel
theorem dX1_mostAlike_0 : decode cX1_mostAlike 0 = .ok (.aload_n 0, 1) := by decide +kernel
theorem dX1_mostAlike_1 : decode cX1_mostAlike 1 = .ok (.aload_n 1, 1) := by decide +kernel
theorem dX1_mostAlike_2 : decode cX1_mostAlike 2 = .ok (.iload_n 2, 1) := by decide +kernel
theorem dX1_mostAlike_3 : decode cX1_mostAlike 3 = .ok (.invokevirtual 84, 3) := by decide +kernel
theorem dX1_mostAlike_6 : decode cX1_mostAlike 6 = .ok (.iconst 0, 1) := by decide +kernel
theorem dX1_mostAlike_7 : decode cX1_mostAlike 7 = .ok (.istore_n 3, 1) := by decide +kernel
theorem dX1_mostAlike_8 : decode cX1_mostAlike 8 = .ok (.iconst 0, 1) := by decide +kernel
theorem dX1_mostAlike_9 : decode cX1_mostAlike 9 = .ok (.istore 4, 2) := by decide +kernel
theorem dX1_mostAlike_11 : decode cX1_mostAlike 11 = .ok (.iconst 0, 1) := by decide +kernel
theorem dX1_mostAlike_12 : decode cX1_mostAlike 12 = .ok (.istore 5, 2) := by decide +kernel
theorem dX1_mostAlike_14 : decode cX1_mostAlike 14 = .ok (.iload 5, 2) := by decide +kernel
theorem dX1_mostAlike_16 : decode cX1_mostAlike 16 = .ok (.iload_n 2, 1) := by decide +kernel
theorem dX1_mostAlike_17 : decode cX1_mostAlike 17 = .ok (.if_icmp .ge 44, 3) := by decide +kernel
theorem dX1_mostAlike_20 : decode cX1_mostAlike 20 = .ok (.iload 5, 2) := by decide +kernel
theorem dX1_mostAlike_22 : decode cX1_mostAlike 22 = .ok (.ifCond .le 23, 3) := by decide +kernel
theorem dX1_mostAlike_25 : decode cX1_mostAlike 25 = .ok (.aload_n 1, 1) := by decide +kernel
theorem dX1_mostAlike_26 : decode cX1_mostAlike 26 = .ok (.iload 5, 2) := by decide +kernel
theorem dX1_mostAlike_28 : decode cX1_mostAlike 28 = .ok (.iaload, 1) := by decide +kernel
theorem dX1_mostAlike_29 : decode cX1_mostAlike 29 = .ok (.aload_n 1, 1) := by decide +kernel
theorem dX1_mostAlike_30 : decode cX1_mostAlike 30 = .ok (.iload 5, 2) := by decide +kernel
theorem dX1_mostAlike_32 : decode cX1_mostAlike 32 = .ok (.iconst 1, 1) := by decide +kernel
theorem dX1_mostAlike_33 : decode cX1_mostAlike 33 = .ok (.isub, 1) := by decide +kernel
theorem dX1_mostAlike_34 : decode cX1_mostAlike 34 = .ok (.iaload, 1) := by decide +kernel
theorem dX1_mostAlike_35 : decode cX1_mostAlike 35 = .ok (.if_icmp .ne 10, 3) := by decide +kernel
theorem dX1_mostAlike_38 : decode cX1_mostAlike 38 = .ok (.iload 4, 2) := by decide +kernel
theorem dX1_mostAlike_40 : decode cX1_mostAlike 40 = .ok (.iconst 1, 1) := by decide +kernel
theorem dX1_mostAlike_41 : decode cX1_mostAlike 41 = .ok (.iadd, 1) := by decide +kernel
theorem dX1_mostAlike_42 : decode cX1_mostAlike 42 = .ok (.goto 4, 3) := by decide +kernel
theorem dX1_mostAlike_45 : decode cX1_mostAlike 45 = .ok (.iconst 1, 1) := by decide +kernel
theorem dX1_mostAlike_46 : decode cX1_mostAlike 46 = .ok (.istore 4, 2) := by decide +kernel
theorem dX1_mostAlike_48 : decode cX1_mostAlike 48 = .ok (.iload_n 3, 1) := by decide +kernel
theorem dX1_mostAlike_49 : decode cX1_mostAlike 49 = .ok (.iload 4, 2) := by decide +kernel
theorem dX1_mostAlike_51 : decode cX1_mostAlike 51 = .ok (.invokestatic 88, 3) := by decide +kernel
theorem dX1_mostAlike_54 : decode cX1_mostAlike 54 = .ok (.istore_n 3, 1) := by decide +kernel
theorem dX1_mostAlike_55 : decode cX1_mostAlike 55 = .ok (.iinc 5 1, 3) := by decide +kernel
theorem dX1_mostAlike_58 : decode cX1_mostAlike 58 = .ok (.goto (-44), 3) := by decide +kernel
theorem dX1_mostAlike_61 : decode cX1_mostAlike 61 = .ok (.iload_n 3, 1) := by decide +kernel
theorem dX1_mostAlike_62 : decode cX1_mostAlike 62 = .ok (.ireturn, 1) := by decide +kernel
theorem dX1_sort_0 : decode cX1_sort 0 = .ok (.iload_n 2, 1) := by decide +kernel
theorem dX1_sort_1 : decode cX1_sort 1 = .ok (.iconst 2, 1) := by decide +kernel
theorem dX1_sort_2 : decode cX1_sort 2 = .ok (.idiv, 1) := by decide +kernel
theorem dX1_sort_3 : decode cX1_sort 3 = .ok (.istore_n 3, 1) := by decide +kernel
theorem dX1_sort_4 : decode cX1_sort 4 = .ok (.iload_n 3, 1) := by decide +kernel
theorem dX1_sort_5 : decode cX1_sort 5 = .ok (.ifCond .le 77, 3) := by decide +kernel
theorem dX1_sort_8 : decode cX1_sort 8 = .ok (.iload_n 3, 1) := by decide +kernel
theorem dX1_sort_9 : decode cX1_sort 9 = .ok (.istore 4, 2) := by decide +kernel
theorem dX1_sort_11 : decode cX1_sort 11 = .ok (.iload 4, 2) := by decide +kernel
theorem dX1_sort_13 : decode cX1_sort 13 = .ok (.iload_n 2, 1) := by decide +kernel
theorem dX1_sort_14 : decode cX1_sort 14 = .ok (.if_icmp .ge 61, 3) := by decide +kernel
theorem dX1_sort_17 : decode cX1_sort 17 = .ok (.aload_n 1, 1) := by decide +kernel
theorem dX1_sort_18 : decode cX1_sort 18 = .ok (.iload 4, 2) := by decide +kernel
theorem dX1_sort_20 : decode cX1_sort 20 = .ok (.iaload, 1) := by decide +kernel
theorem dX1_sort_21 : decode cX1_sort 21 = .ok (.istore 5, 2) := by decide +kernel
theorem dX1_sort_23 : decode cX1_sort 23 = .ok (.iload 4, 2) := by decide +kernel
theorem dX1_sort_25 : decode cX1_sort 25 = .ok (.istore 6, 2) := by decide +kernel
theorem dX1_sort_27 : decode cX1_sort 27 = .ok (.iload 6, 2) := by decide +kernel
theorem dX1_sort_29 : decode cX1_sort 29 = .ok (.iload_n 3, 1) := by decide +kernel
theorem dX1_sort_30 : decode cX1_sort 30 = .ok (.if_icmp .lt 33, 3) := by decide +kernel
theorem dX1_sort_33 : decode cX1_sort 33 = .ok (.aload_n 1, 1) := by decide +kernel
theorem dX1_sort_34 : decode cX1_sort 34 = .ok (.iload 6, 2) := by decide +kernel
theorem dX1_sort_36 : decode cX1_sort 36 = .ok (.iload_n 3, 1) := by decide +kernel
theorem dX1_sort_37 : decode cX1_sort 37 = .ok (.isub, 1) := by decide +kernel
theorem dX1_sort_38 : decode cX1_sort 38 = .ok (.iaload, 1) := by decide +kernel
theorem dX1_sort_39 : decode cX1_sort 39 = .ok (.iload 5, 2) := by decide +kernel
theorem dX1_sort_41 : decode cX1_sort 41 = .ok (.if_icmp .le 22, 3) := by decide +kernel
theorem dX1_sort_44 : decode cX1_sort 44 = .ok (.aload_n 1, 1) := by decide +kernel
theorem dX1_sort_45 : decode cX1_sort 45 = .ok (.iload 6, 2) := by decide +kernel
theorem dX1_sort_47 : decode cX1_sort 47 = .ok (.aload_n 1, 1) := by decide +kernel
theorem dX1_sort_48 : decode cX1_sort 48 = .ok (.iload 6, 2) := by decide +kernel
theorem dX1_sort_50 : decode cX1_sort 50 = .ok (.iload_n 3, 1) := by decide +kernel
theorem dX1_sort_51 : decode cX1_sort 51 = .ok (.isub, 1) := by decide +kernel
theorem dX1_sort_52 : decode cX1_sort 52 = .ok (.iaload, 1) := by decide +kernel
theorem dX1_sort_53 : decode cX1_sort 53 = .ok (.iastore, 1) := by decide +kernel
theorem dX1_sort_54 : decode cX1_sort 54 = .ok (.iload 6, 2) := by decide +kernel
theorem dX1_sort_56 : decode cX1_sort 56 = .ok (.iload_n 3, 1) := by decide +kernel
theorem dX1_sort_57 : decode cX1_sort 57 = .ok (.isub, 1) := by decide +kernel
theorem dX1_sort_58 : decode cX1_sort 58 = .ok (.istore 6, 2) := by decide +kernel
theorem dX1_sort_60 : decode cX1_sort 60 = .ok (.goto (-33), 3) := by decide +kernel
theorem dX1_sort_63 : decode cX1_sort 63 = .ok (.aload_n 1, 1) := by decide +kernel
theorem dX1_sort_64 : decode cX1_sort 64 = .ok (.iload 6, 2) := by decide +kernel
theorem dX1_sort_66 : decode cX1_sort 66 = .ok (.iload 5, 2) := by decide +kernel
theorem dX1_sort_68 : decode cX1_sort 68 = .ok (.iastore, 1) := by decide +kernel
theorem dX1_sort_69 : decode cX1_sort 69 = .ok (.iinc 4 1, 3) := by decide +kernel
theorem dX1_sort_72 : decode cX1_sort 72 = .ok (.goto (-61), 3) := by decide +kernel
theorem dX1_sort_75 : decode cX1_sort 75 = .ok (.iload_n 3, 1) := by decide +kernel
theorem dX1_sort_76 : decode cX1_sort 76 = .ok (.iconst 2, 1) := by decide +kernel
theorem dX1_sort_77 : decode cX1_sort 77 = .ok (.idiv, 1) := by decide +kernel
theorem dX1_sort_78 : decode cX1_sort 78 = .ok (.istore_n 3, 1) := by decide +kernel
theorem dX1_sort_79 : decode cX1_sort 79 = .ok (.goto (-75), 3) := by decide +kernel
theorem dX1_sort_82 : decode cX1_sort 82 = .ok (.return_, 1) := by decide +kernel
theorem dX2_init_0 : decode cX2_init 0 = .ok (.aload_n 0, 1) := by decide +kernel
theorem dX2_init_1 : decode cX2_init 1 = .ok (.invokespecial 3, 3) := by decide +kernel
theorem dX2_init_4 : decode cX2_init 4 = .ok (.aload_n 0, 1) := by decide +kernel
theorem dX2_init_5 : decode cX2_init 5 = .ok (.bipush 10, 2) := by decide +kernel
theorem dX2_init_7 : decode cX2_init 7 = .ok (.anewarray 9, 3) := by decide +kernel
theorem dX2_init_10 : decode cX2_init 10 = .ok (.putfield 11, 3) := by decide +kernel
theorem dX2_init_13 : decode cX2_init 13 = .ok (.iconst 0, 1) := by decide +kernel
theorem dX2_init_14 : decode cX2_init 14 = .ok (.istore_n 1, 1) := by decide +kernel
theorem dX2_init_15 : decode cX2_init 15 = .ok (.iload_n 1, 1) := by decide +kernel
theorem dX2_init_16 : decode cX2_init 16 = .ok (.aload_n 0, 1) := by decide +kernel
theorem dX2_init_17 : decode cX2_init 17 = .ok (.getfield 11, 3) := by decide +kernel
theorem dX2_init_20 : decode cX2_init 20 = .ok (.arraylength, 1) := by decide +kernel
theorem dX2_init_21 : decode cX2_init 21 = .ok (.if_icmp .ge 22, 3) := by decide +kernel
theorem dX2_init_24 : decode cX2_init 24 = .ok (.aload_n 0, 1) := by decide +kernel
theorem dX2_init_25 : decode cX2_init 25 = .ok (.getfield 11, 3) := by decide +kernel
theorem dX2_init_28 : decode cX2_init 28 = .ok (.iload_n 1, 1) := by decide +kernel
theorem dX2_init_29 : decode cX2_init 29 = .ok (.new 9, 3) := by decide +kernel
theorem dX2_init_32 : decode cX2_init 32 = .ok (.dup, 1) := by decide +kernel
theorem dX2_init_33 : decode cX2_init 33 = .ok (.invokespecial 17, 3) := by decide +kernel
theorem dX2_init_36 : decode cX2_init 36 = .ok (.aastore, 1) := by decide +kernel
theorem dX2_init_37 : decode cX2_init 37 = .ok (.iinc 1 1, 3) := by decide +kernel
theorem dX2_init_40 : decode cX2_init 40 = .ok (.goto (-25), 3) := by decide +kernel
theorem dX2_init_43 : decode cX2_init 43 = .ok (.return_, 1) := by decide +kernel
theorem dX2_remember_0 : decode cX2_remember 0 = .ok (.aload_n 0, 1) := by decide +kernel
theorem dX2_remember_1 : decode cX2_remember 1 = .ok (.getfield 18, 3) := by decide +kernel
theorem dX2_remember_4 : decode cX2_remember 4 = .ok (.ifCond .lt 15, 3) := by decide +kernel
theorem dX2_remember_7 : decode cX2_remember 7 = .ok (.aload_n 0, 1) := by decide +kernel
theorem dX2_remember_8 : decode cX2_remember 8 = .ok (.getfield 18, 3) := by decide +kernel
theorem dX2_remember_11 : decode cX2_remember 11 = .ok (.aload_n 0, 1) := by decide +kernel
theorem dX2_remember_12 : decode cX2_remember 12 = .ok (.getfield 11, 3) := by decide +kernel
theorem dX2_remember_15 : decode cX2_remember 15 = .ok (.arraylength, 1) := by decide +kernel
theorem dX2_remember_16 : decode cX2_remember 16 = .ok (.if_icmp .lt 65, 3) := by decide +kernel
theorem dX2_remember_19 : decode cX2_remember 19 = .ok (.aload_n 0, 1) := by decide +kernel
theorem dX2_remember_20 : decode cX2_remember 20 = .ok (.getfield 11, 3) := by decide +kernel
theorem dX2_remember_23 : decode cX2_remember 23 = .ok (.iconst 0, 1) := by decide +kernel
theorem dX2_remember_24 : decode cX2_remember 24 = .ok (.aaload, 1) := by decide +kernel
theorem dX2_remember_25 : decode cX2_remember 25 = .ok (.astore_n 2, 1) := by decide +kernel
theorem dX2_remember_26 : decode cX2_remember 26 = .ok (.iconst 1, 1) := by decide +kernel
theorem dX2_remember_27 : decode cX2_remember 27 = .ok (.istore_n 3, 1) := by decide +kernel
theorem dX2_remember_28 : decode cX2_remember 28 = .ok (.iload_n 3, 1) := by decide +kernel
theorem dX2_remember_29 : decode cX2_remember 29 = .ok (.aload_n 0, 1) := by decide +kernel
theorem dX2_remember_30 : decode cX2_remember 30 = .ok (.getfield 11, 3) := by decide +kernel
theorem dX2_remember_33 : decode cX2_remember 33 = .ok (.arraylength, 1) := by decide +kernel
theorem dX2_remember_34 : decode cX2_remember 34 = .ok (.if_icmp .ge 23, 3) := by decide +kernel
theorem dX2_remember_37 : decode cX2_remember 37 = .ok (.aload_n 0, 1) := by decide +kernel
theorem dX2_remember_38 : decode cX2_remember 38 = .ok (.getfield 11, 3) := by decide +kernel
theorem dX2_remember_41 : decode cX2_remember 41 = .ok (.iload_n 3, 1) := by decide +kernel
theorem dX2_remember_42 : decode cX2_remember 42 = .ok (.iconst 1, 1) := by decide +kernel
theorem dX2_remember_43 : decode cX2_remember 43 = .ok (.isub, 1) := by decide +kernel
theorem dX2_remember_44 : decode cX2_remember 44 = .ok (.aload_n 0, 1) := by decide +kernel
theorem dX2_remember_45 : decode cX2_remember 45 = .ok (.getfield 11, 3) := by decide +kernel
theorem dX2_remember_48 : decode cX2_remember 48 = .ok (.iload_n 3, 1) := by decide +kernel
theorem dX2_remember_49 : decode cX2_remember 49 = .ok (.aaload, 1) := by decide +kernel
theorem dX2_remember_50 : decode cX2_remember 50 = .ok (.aastore, 1) := by decide +kernel
theorem dX2_remember_51 : decode cX2_remember 51 = .ok (.iinc 3 1, 3) := by decide +kernel
theorem dX2_remember_54 : decode cX2_remember 54 = .ok (.goto (-26), 3) := by decide +kernel
theorem dX2_remember_57 : decode cX2_remember 57 = .ok (.aload_n 0, 1) := by decide +kernel
theorem dX2_remember_58 : decode cX2_remember 58 = .ok (.getfield 11, 3) := by decide +kernel
theorem dX2_remember_61 : decode cX2_remember 61 = .ok (.aload_n 0, 1) := by decide +kernel
theorem dX2_remember_62 : decode cX2_remember 62 = .ok (.getfield 11, 3) := by decide +kernel
theorem dX2_remember_65 : decode cX2_remember 65 = .ok (.arraylength, 1) := by decide +kernel
theorem dX2_remember_66 : decode cX2_remember 66 = .ok (.iconst 1, 1) := by decide +kernel
theorem dX2_remember_67 : decode cX2_remember 67 = .ok (.isub, 1) := by decide +kernel
theorem dX2_remember_68 : decode cX2_remember 68 = .ok (.aload_n 2, 1) := by decide +kernel
theorem dX2_remember_69 : decode cX2_remember 69 = .ok (.aastore, 1) := by decide +kernel
theorem dX2_remember_70 : decode cX2_remember 70 = .ok (.aload_n 0, 1) := by decide +kernel
theorem dX2_remember_71 : decode cX2_remember 71 = .ok (.aload_n 0, 1) := by decide +kernel
theorem dX2_remember_72 : decode cX2_remember 72 = .ok (.getfield 11, 3) := by decide +kernel
theorem dX2_remember_75 : decode cX2_remember 75 = .ok (.arraylength, 1) := by decide +kernel
theorem dX2_remember_76 : decode cX2_remember 76 = .ok (.iconst 1, 1) := by decide +kernel
theorem dX2_remember_77 : decode cX2_remember 77 = .ok (.isub, 1) := by decide +kernel
theorem dX2_remember_78 : decode cX2_remember 78 = .ok (.putfield 18, 3) := by decide +kernel
theorem dX2_remember_81 : decode cX2_remember 81 = .ok (.aload_n 0, 1) := by decide +kernel
theorem dX2_remember_82 : decode cX2_remember 82 = .ok (.getfield 11, 3) := by decide +kernel
theorem dX2_remember_85 : decode cX2_remember 85 = .ok (.aload_n 0, 1) := by decide +kernel
theorem dX2_remember_86 : decode cX2_remember 86 = .ok (.getfield 18, 3) := by decide +kernel
theorem dX2_remember_89 : decode cX2_remember 89 = .ok (.aaload, 1) := by decide +kernel
theorem dX2_remember_90 : decode cX2_remember 90 = .ok (.aload_n 1, 1) := by decide +kernel
theorem dX2_remember_91 : decode cX2_remember 91 = .ok (.invokevirtual 22, 3) := by decide +kernel
theorem dX2_remember_94 : decode cX2_remember 94 = .ok (.aload_n 0, 1) := by decide +kernel
theorem dX2_remember_95 : decode cX2_remember 95 = .ok (.dup, 1) := by decide +kernel
theorem dX2_remember_96 : decode cX2_remember 96 = .ok (.getfield 18, 3) := by decide +kernel
theorem dX2_remember_99 : decode cX2_remember 99 = .ok (.iconst 1, 1) := by decide +kernel
theorem dX2_remember_100 : decode cX2_remember 100 = .ok (.iadd, 1) := by decide +kernel
theorem dX2_remember_101 : decode cX2_remember 101 = .ok (.putfield 18, 3) := by decide +kernel
theorem dX2_remember_104 : decode cX2_remember 104 = .ok (.return_, 1) := by decide +kernel
theorem dX2_goBack_0 : decode cX2_goBack 0 = .ok (.iload_n 1, 1) := by decide +kernel
theorem dX2_goBack_1 : decode cX2_goBack 1 = .ok (.ifCond .le 34, 3) := by decide +kernel
theorem dX2_goBack_4 : decode cX2_goBack 4 = .ok (.iload_n 1, 1) := by decide +kernel
theorem dX2_goBack_5 : decode cX2_goBack 5 = .ok (.aload_n 0, 1) := by decide +kernel
theorem dX2_goBack_6 : decode cX2_goBack 6 = .ok (.getfield 18, 3) := by decide +kernel
theorem dX2_goBack_9 : decode cX2_goBack 9 = .ok (.if_icmp .gt 26, 3) := by decide +kernel
theorem dX2_goBack_12 : decode cX2_goBack 12 = .ok (.aload_n 0, 1) := by decide +kernel
theorem dX2_goBack_13 : decode cX2_goBack 13 = .ok (.dup, 1) := by decide +kernel
theorem dX2_goBack_14 : decode cX2_goBack 14 = .ok (.getfield 18, 3) := by decide +kernel
theorem dX2_goBack_17 : decode cX2_goBack 17 = .ok (.iload_n 1, 1) := by decide +kernel
theorem dX2_goBack_18 : decode cX2_goBack 18 = .ok (.isub, 1) := by decide +kernel
theorem dX2_goBack_19 : decode cX2_goBack 19 = .ok (.putfield 18, 3) := by decide +kernel
theorem dX2_goBack_22 : decode cX2_goBack 22 = .ok (.aload_n 2, 1) := by decide +kernel
theorem dX2_goBack_23 : decode cX2_goBack 23 = .ok (.aload_n 0, 1) := by decide +kernel
theorem dX2_goBack_24 : decode cX2_goBack 24 = .ok (.getfield 11, 3) := by decide +kernel
theorem dX2_goBack_27 : decode cX2_goBack 27 = .ok (.aload_n 0, 1) := by decide +kernel
theorem dX2_goBack_28 : decode cX2_goBack 28 = .ok (.getfield 18, 3) := by decide +kernel
theorem dX2_goBack_31 : decode cX2_goBack 31 = .ok (.aaload, 1) := by decide +kernel
theorem dX2_goBack_32 : decode cX2_goBack 32 = .ok (.invokevirtual 22, 3) := by decide +kernel
theorem dX2_goBack_35 : decode cX2_goBack 35 = .ok (.return_, 1) := by decide +kernel
theorem dX2_takeOver_0 : decode cX2_takeOver 0 = .ok (.aload_n 0, 1) := by decide +kernel
theorem dX2_takeOver_1 : decode cX2_takeOver 1 = .ok (.aload_n 1, 1) := by decide +kernel
theorem dX2_takeOver_2 : decode cX2_takeOver 2 = .ok (.getfield 18, 3) := by decide +kernel
theorem dX2_takeOver_5 : decode cX2_takeOver 5 = .ok (.putfield 18, 3) := by decide +kernel
theorem dX2_takeOver_8 : decode cX2_takeOver 8 = .ok (.iconst 0, 1) := by decide +kernel
theorem dX2_takeOver_9 : decode cX2_takeOver 9 = .ok (.istore_n 2, 1) := by decide +kernel
theorem dX2_takeOver_10 : decode cX2_takeOver 10 = .ok (.iload_n 2, 1) := by decide +kernel
theorem dX2_takeOver_11 : decode cX2_takeOver 11 = .ok (.aload_n 0, 1) := by decide +kernel
theorem dX2_takeOver_12 : decode cX2_takeOver 12 = .ok (.getfield 18, 3) := by decide +kernel
theorem dX2_takeOver_15 : decode cX2_takeOver 15 = .ok (.if_icmp .ge 33, 3) := by decide +kernel
theorem dX2_takeOver_18 : decode cX2_takeOver 18 = .ok (.iload_n 2, 1) := by decide +kernel
theorem dX2_takeOver_19 : decode cX2_takeOver 19 = .ok (.aload_n 0, 1) := by decide +kernel
theorem dX2_takeOver_20 : decode cX2_takeOver 20 = .ok (.getfield 11, 3) := by decide +kernel
theorem dX2_takeOver_23 : decode cX2_takeOver 23 = .ok (.arraylength, 1) := by decide +kernel
theorem dX2_takeOver_24 : decode cX2_takeOver 24 = .ok (.if_icmp .ge 24, 3) := by decide +kernel
theorem dX2_takeOver_27 : decode cX2_takeOver 27 = .ok (.aload_n 0, 1) := by decide +kernel
theorem dX2_takeOver_28 : decode cX2_takeOver 28 = .ok (.getfield 11, 3) := by decide +kernel
theorem dX2_takeOver_31 : decode cX2_takeOver 31 = .ok (.iload_n 2, 1) := by decide +kernel
theorem dX2_takeOver_32 : decode cX2_takeOver 32 = .ok (.aaload, 1) := by decide +kernel
theorem dX2_takeOver_33 : decode cX2_takeOver 33 = .ok (.aload_n 1, 1) := by decide +kernel
theorem dX2_takeOver_34 : decode cX2_takeOver 34 = .ok (.getfield 11, 3) := by decide +kernel
theorem dX2_takeOver_37 : decode cX2_takeOver 37 = .ok (.iload_n 2, 1) := by decide +kernel
theorem dX2_takeOver_38 : decode cX2_takeOver 38 = .ok (.aaload, 1) := by decide +kernel
theorem dX2_takeOver_39 : decode cX2_takeOver 39 = .ok (.invokevirtual 22, 3) := by decide +kernel
theorem dX2_takeOver_42 : decode cX2_takeOver 42 = .ok (.iinc 2 1, 3) := by decide +kernel
theorem dX2_takeOver_45 : decode cX2_takeOver 45 = .ok (.goto (-35), 3) := by decide +kernel
theorem dX2_takeOver_48 : decode cX2_takeOver 48 = .ok (.return_, 1) := by decide +kernel
theorem dX3_init_0 : decode cX3_init 0 = .ok (.aload_n 0, 1) := by decide +kernel
theorem dX3_init_1 : decode cX3_init 1 = .ok (.invokespecial 1, 3) := by decide +kernel
theorem dX3_init_4 : decode cX3_init 4 = .ok (.aload_n 0, 1) := by decide +kernel
theorem dX3_init_5 : decode cX3_init 5 = .ok (.new 7, 3) := by decide +kernel
theorem dX3_init_8 : decode cX3_init 8 = .ok (.dup, 1) := by decide +kernel
theorem dX3_init_9 : decode cX3_init 9 = .ok (.invokespecial 9, 3) := by decide +kernel
theorem dX3_init_12 : decode cX3_init 12 = .ok (.putfield 10, 3) := by decide +kernel
theorem dX3_init_15 : decode cX3_init 15 = .ok (.aload_n 0, 1) := by decide +kernel
theorem dX3_init_16 : decode cX3_init 16 = .ok (.new 16, 3) := by decide +kernel
theorem dX3_init_19 : decode cX3_init 19 = .ok (.dup, 1) := by decide +kernel
theorem dX3_init_20 : decode cX3_init 20 = .ok (.invokespecial 18, 3) := by decide +kernel
theorem dX3_init_23 : decode cX3_init 23 = .ok (.putfield 19, 3) := by decide +kernel
theorem dX3_init_26 : decode cX3_init 26 = .ok (.return_, 1) := by decide +kernel
theorem dX4_init_0 : decode cX4_init 0 = .ok (.aload_n 0, 1) := by decide +kernel
theorem dX4_init_1 : decode cX4_init 1 = .ok (.invokespecial 3, 3) := by decide +kernel
theorem dX4_init_4 : decode cX4_init 4 = .ok (.aload_n 0, 1) := by decide +kernel
theorem dX4_init_5 : decode cX4_init 5 = .ok (.bipush 7, 2) := by decide +kernel
theorem dX4_init_7 : decode cX4_init 7 = .ok (.newarray .int, 2) := by decide +kernel
theorem dX4_init_9 : decode cX4_init 9 = .ok (.putfield 9, 3) := by decide +kernel
theorem dX4_init_12 : decode cX4_init 12 = .ok (.aload_n 0, 1) := by decide +kernel
theorem dX4_init_13 : decode cX4_init 13 = .ok (.new 15, 3) := by decide +kernel
theorem dX4_init_16 : decode cX4_init 16 = .ok (.dup, 1) := by decide +kernel
theorem dX4_init_17 : decode cX4_init 17 = .ok (.invokespecial 17, 3) := by decide +kernel
theorem dX4_init_20 : decode cX4_init 20 = .ok (.putfield 18, 3) := by decide +kernel
theorem dX4_init_23 : decode cX4_init 23 = .ok (.aload_n 0, 1) := by decide +kernel
theorem dX4_init_24 : decode cX4_init 24 = .ok (.bipush 7, 2) := by decide +kernel
theorem dX4_init_26 : decode cX4_init 26 = .ok (.newarray .int, 2) := by decide +kernel
theorem dX4_init_28 : decode cX4_init 28 = .ok (.putfield 22, 3) := by decide +kernel
theorem dX4_init_31 : decode cX4_init 31 = .ok (.return_, 1) := by decide +kernel
theorem dX4_search_0 : decode cX4_search 0 = .ok (.aload_n 0, 1) := by decide +kernel
theorem dX4_search_1 : decode cX4_search 1 = .ok (.getfield 25, 3) := by decide +kernel
theorem dX4_search_4 : decode cX4_search 4 = .ok (.aload_n 2, 1) := by decide +kernel
theorem dX4_search_5 : decode cX4_search 5 = .ok (.if_acmp .ne 27, 3) := by decide +kernel
theorem dX4_search_8 : decode cX4_search 8 = .ok (.aload_n 0, 1) := by decide +kernel
theorem dX4_search_9 : decode cX4_search 9 = .ok (.getfield 29, 3) := by decide +kernel
theorem dX4_search_12 : decode cX4_search 12 = .ok (.iload 4, 2) := by decide +kernel
theorem dX4_search_14 : decode cX4_search 14 = .ok (.if_icmp .ne 18, 3) := by decide +kernel
theorem dX4_search_17 : decode cX4_search 17 = .ok (.aload_n 0, 1) := by decide +kernel
theorem dX4_search_18 : decode cX4_search 18 = .ok (.getfield 18, 3) := by decide +kernel
theorem dX4_search_21 : decode cX4_search 21 = .ok (.aload_n 3, 1) := by decide +kernel
theorem dX4_search_22 : decode cX4_search 22 = .ok (.invokevirtual 33, 3) := by decide +kernel
theorem dX4_search_25 : decode cX4_search 25 = .ok (.ifCond .eq 7, 3) := by decide +kernel
theorem dX4_search_28 : decode cX4_search 28 = .ok (.iconst 1, 1) := by decide +kernel
theorem dX4_search_29 : decode cX4_search 29 = .ok (.goto 4, 3) := by decide +kernel
theorem dX4_search_32 : decode cX4_search 32 = .ok (.iconst 0, 1) := by decide +kernel
theorem dX4_search_33 : decode cX4_search 33 = .ok (.istore 6, 2) := by decide +kernel
theorem dX4_search_35 : decode cX4_search 35 = .ok (.iload 6, 2) := by decide +kernel
theorem dX4_search_37 : decode cX4_search 37 = .ok (.ifCond .eq 16, 3) := by decide +kernel
theorem dX4_search_40 : decode cX4_search 40 = .ok (.aload_n 0, 1) := by decide +kernel
theorem dX4_search_41 : decode cX4_search 41 = .ok (.getfield 37, 3) := by decide +kernel
theorem dX4_search_44 : decode cX4_search 44 = .ok (.ifCond .ne 8, 3) := by decide +kernel
theorem dX4_search_47 : decode cX4_search 47 = .ok (.iload 5, 2) := by decide +kernel
theorem dX4_search_49 : decode cX4_search 49 = .ok (.ifCond .ne 4, 3) := by decide +kernel
theorem dX4_search_52 : decode cX4_search 52 = .ok (.return_, 1) := by decide +kernel
theorem dX4_search_53 : decode cX4_search 53 = .ok (.aload_n 0, 1) := by decide +kernel
theorem dX4_search_54 : decode cX4_search 54 = .ok (.aload_n 2, 1) := by decide +kernel
theorem dX4_search_55 : decode cX4_search 55 = .ok (.putfield 25, 3) := by decide +kernel
theorem dX4_search_58 : decode cX4_search 58 = .ok (.aload_n 0, 1) := by decide +kernel
theorem dX4_search_59 : decode cX4_search 59 = .ok (.iload 4, 2) := by decide +kernel
theorem dX4_search_61 : decode cX4_search 61 = .ok (.putfield 29, 3) := by decide +kernel
theorem dX4_search_64 : decode cX4_search 64 = .ok (.aload_n 0, 1) := by decide +kernel
theorem dX4_search_65 : decode cX4_search 65 = .ok (.getfield 18, 3) := by decide +kernel
theorem dX4_search_68 : decode cX4_search 68 = .ok (.aload_n 3, 1) := by decide +kernel
theorem dX4_search_69 : decode cX4_search 69 = .ok (.invokevirtual 41, 3) := by decide +kernel
theorem dX4_search_72 : decode cX4_search 72 = .ok (.aload_n 0, 1) := by decide +kernel
theorem dX4_search_73 : decode cX4_search 73 = .ok (.iconst 1, 1) := by decide +kernel
theorem dX4_search_74 : decode cX4_search 74 = .ok (.putfield 37, 3) := by decide +kernel
theorem dX4_search_77 : decode cX4_search 77 = .ok (.iconst 0, 1) := by decide +kernel
theorem dX4_search_78 : decode cX4_search 78 = .ok (.istore 7, 2) := by decide +kernel
theorem dX4_search_80 : decode cX4_search 80 = .ok (.iload 7, 2) := by decide +kernel
theorem dX4_search_82 : decode cX4_search 82 = .ok (.bipush 7, 2) := by decide +kernel
theorem dX4_search_84 : decode cX4_search 84 = .ok (.if_icmp .ge 18, 3) := by decide +kernel
theorem dX4_search_87 : decode cX4_search 87 = .ok (.aload_n 0, 1) := by decide +kernel
theorem dX4_search_88 : decode cX4_search 88 = .ok (.getfield 22, 3) := by decide +kernel
theorem dX4_search_91 : decode cX4_search 91 = .ok (.iload 7, 2) := by decide +kernel
theorem dX4_search_93 : decode cX4_search 93 = .ok (.iload 7, 2) := by decide +kernel
theorem dX4_search_95 : decode cX4_search 95 = .ok (.iastore, 1) := by decide +kernel
theorem dX4_search_96 : decode cX4_search 96 = .ok (.iinc 7 1, 3) := by decide +kernel
theorem dX4_search_99 : decode cX4_search 99 = .ok (.goto (-19), 3) := by decide +kernel
theorem dX4_search_102 : decode cX4_search 102 = .ok (.aload_n 0, 1) := by decide +kernel
theorem dX4_search_103 : decode cX4_search 103 = .ok (.bipush 8, 2) := by decide +kernel
theorem dX4_search_105 : decode cX4_search 105 = .ok (.putfield 45, 3) := by decide +kernel
theorem dX4_search_108 : decode cX4_search 108 = .ok (.iconst 1, 1) := by decide +kernel
theorem dX4_search_109 : decode cX4_search 109 = .ok (.istore 7, 2) := by decide +kernel
theorem dX4_search_111 : decode cX4_search 111 = .ok (.iconst 0, 1) := by decide +kernel
theorem dX4_search_112 : decode cX4_search 112 = .ok (.istore 8, 2) := by decide +kernel
theorem dX4_search_114 : decode cX4_search 114 = .ok (.iload 8, 2) := by decide +kernel
theorem dX4_search_116 : decode cX4_search 116 = .ok (.sipush 5040, 3) := by decide +kernel
theorem dX4_search_119 : decode cX4_search 119 = .ok (.if_icmp .ge 116, 3) := by decide +kernel
theorem dX4_search_122 : decode cX4_search 122 = .ok (.iload 7, 2) := by decide +kernel
theorem dX4_search_124 : decode cX4_search 124 = .ok (.ifCond .eq 111, 3) := by decide +kernel
theorem dX4_search_127 : decode cX4_search 127 = .ok (.aload_n 1, 1) := by decide +kernel
theorem dX4_search_128 : decode cX4_search 128 = .ok (.aload_n 2, 1) := by decide +kernel
theorem dX4_search_129 : decode cX4_search 129 = .ok (.aload_n 3, 1) := by decide +kernel
theorem dX4_search_130 : decode cX4_search 130 = .ok (.invokevirtual 48, 3) := by decide +kernel
theorem dX4_search_133 : decode cX4_search 133 = .ok (.astore 9, 2) := by decide +kernel
theorem dX4_search_135 : decode cX4_search 135 = .ok (.iconst 0, 1) := by decide +kernel
theorem dX4_search_136 : decode cX4_search 136 = .ok (.istore 10, 2) := by decide +kernel
theorem dX4_search_138 : decode cX4_search 138 = .ok (.iload 10, 2) := by decide +kernel
theorem dX4_search_140 : decode cX4_search 140 = .ok (.aload_n 3, 1) := by decide +kernel
theorem dX4_search_141 : decode cX4_search 141 = .ok (.getfield 54, 3) := by decide +kernel
theorem dX4_search_144 : decode cX4_search 144 = .ok (.if_icmp .ge 31, 3) := by decide +kernel
theorem dX4_search_147 : decode cX4_search 147 = .ok (.iload 10, 2) := by decide +kernel
theorem dX4_search_149 : decode cX4_search 149 = .ok (.bipush 7, 2) := by decide +kernel
theorem dX4_search_151 : decode cX4_search 151 = .ok (.if_icmp .ge 24, 3) := by decide +kernel
theorem dX4_search_154 : decode cX4_search 154 = .ok (.aload 9, 2) := by decide +kernel
theorem dX4_search_156 : decode cX4_search 156 = .ok (.aload_n 3, 1) := by decide +kernel
theorem dX4_search_157 : decode cX4_search 157 = .ok (.aload_n 0, 1) := by decide +kernel
theorem dX4_search_158 : decode cX4_search 158 = .ok (.getfield 22, 3) := by decide +kernel
theorem dX4_search_161 : decode cX4_search 161 = .ok (.iload 10, 2) := by decide +kernel
theorem dX4_search_163 : decode cX4_search 163 = .ok (.iaload, 1) := by decide +kernel
theorem dX4_search_164 : decode cX4_search 164 = .ok (.iload 10, 2) := by decide +kernel
theorem dX4_search_166 : decode cX4_search 166 = .ok (.invokevirtual 57, 3) := by decide +kernel
theorem dX4_search_169 : decode cX4_search 169 = .ok (.iinc 10 1, 3) := by decide +kernel
theorem dX4_search_172 : decode cX4_search 172 = .ok (.goto (-34), 3) := by decide +kernel
theorem dX4_search_175 : decode cX4_search 175 = .ok (.aload_n 0, 1) := by decide +kernel
theorem dX4_search_176 : decode cX4_search 176 = .ok (.aload_n 1, 1) := by decide +kernel
theorem dX4_search_177 : decode cX4_search 177 = .ok (.iload 4, 2) := by decide +kernel
theorem dX4_search_179 : decode cX4_search 179 = .ok (.aload_n 0, 1) := by decide +kernel
theorem dX4_search_180 : decode cX4_search 180 = .ok (.getfield 45, 3) := by decide +kernel
theorem dX4_search_183 : decode cX4_search 183 = .ok (.invokevirtual 61, 3) := by decide +kernel
theorem dX4_search_186 : decode cX4_search 186 = .ok (.invokevirtual 65, 3) := by decide +kernel
theorem dX4_search_189 : decode cX4_search 189 = .ok (.aload_n 0, 1) := by decide +kernel
theorem dX4_search_190 : decode cX4_search 190 = .ok (.aload_n 3, 1) := by decide +kernel
theorem dX4_search_191 : decode cX4_search 191 = .ok (.getfield 54, 3) := by decide +kernel
theorem dX4_search_194 : decode cX4_search 194 = .ok (.bipush 7, 2) := by decide +kernel
theorem dX4_search_196 : decode cX4_search 196 = .ok (.invokestatic 69, 3) := by decide +kernel
theorem dX4_search_199 : decode cX4_search 199 = .ok (.invokevirtual 74, 3) := by decide +kernel
theorem dX4_search_202 : decode cX4_search 202 = .ok (.istore 7, 2) := by decide +kernel
theorem dX4_search_204 : decode cX4_search 204 = .ok (.iload 7, 2) := by decide +kernel
theorem dX4_search_206 : decode cX4_search 206 = .ok (.ifCond .eq 23, 3) := by decide +kernel
theorem dX4_search_209 : decode cX4_search 209 = .ok (.aload_n 0, 1) := by decide +kernel
theorem dX4_search_210 : decode cX4_search 210 = .ok (.getfield 45, 3) := by decide +kernel
theorem dX4_search_213 : decode cX4_search 213 = .ok (.ifCond .ne 16, 3) := by decide +kernel
theorem dX4_search_216 : decode cX4_search 216 = .ok (.iload 5, 2) := by decide +kernel
theorem dX4_search_218 : decode cX4_search 218 = .ok (.ifCond .ne 11, 3) := by decide +kernel
theorem dX4_search_221 : decode cX4_search 221 = .ok (.aload_n 0, 1) := by decide +kernel
theorem dX4_search_222 : decode cX4_search 222 = .ok (.iconst 0, 1) := by decide +kernel
theorem dX4_search_223 : decode cX4_search 223 = .ok (.putfield 37, 3) := by decide +kernel
theorem dX4_search_226 : decode cX4_search 226 = .ok (.iconst 0, 1) := by decide +kernel
theorem dX4_search_227 : decode cX4_search 227 = .ok (.istore 7, 2) := by decide +kernel
theorem dX4_search_229 : decode cX4_search 229 = .ok (.iinc 8 1, 3) := by decide +kernel
theorem dX4_search_232 : decode cX4_search 232 = .ok (.goto (-118), 3) := by decide +kernel
theorem dX4_search_235 : decode cX4_search 235 = .ok (.return_, 1) := by decide +kernel
theorem dX4_note_0 : decode cX4_note 0 = .ok (.iload_n 1, 1) := by decide +kernel
theorem dX4_note_1 : decode cX4_note 1 = .ok (.aload_n 0, 1) := by decide +kernel
theorem dX4_note_2 : decode cX4_note 2 = .ok (.getfield 45, 3) := by decide +kernel
theorem dX4_note_5 : decode cX4_note 5 = .ok (.if_icmp .ge 28, 3) := by decide +kernel
theorem dX4_note_8 : decode cX4_note 8 = .ok (.aload_n 0, 1) := by decide +kernel
theorem dX4_note_9 : decode cX4_note 9 = .ok (.iload_n 1, 1) := by decide +kernel
theorem dX4_note_10 : decode cX4_note 10 = .ok (.putfield 45, 3) := by decide +kernel
theorem dX4_note_13 : decode cX4_note 13 = .ok (.aload_n 0, 1) := by decide +kernel
theorem dX4_note_14 : decode cX4_note 14 = .ok (.iconst 0, 1) := by decide +kernel
theorem dX4_note_15 : decode cX4_note 15 = .ok (.putfield 78, 3) := by decide +kernel
theorem dX4_note_18 : decode cX4_note 18 = .ok (.aload_n 0, 1) := by decide +kernel
theorem dX4_note_19 : decode cX4_note 19 = .ok (.getfield 22, 3) := by decide +kernel
theorem dX4_note_22 : decode cX4_note 22 = .ok (.iconst 0, 1) := by decide +kernel
theorem dX4_note_23 : decode cX4_note 23 = .ok (.aload_n 0, 1) := by decide +kernel
theorem dX4_note_24 : decode cX4_note 24 = .ok (.getfield 9, 3) := by decide +kernel
theorem dX4_note_27 : decode cX4_note 27 = .ok (.iconst 0, 1) := by decide +kernel
theorem dX4_note_28 : decode cX4_note 28 = .ok (.bipush 7, 2) := by decide +kernel
theorem dX4_note_30 : decode cX4_note 30 = .ok (.invokestatic 81, 3) := by decide +kernel
theorem dX4_note_33 : decode cX4_note 33 = .ok (.iload_n 1, 1) := by decide +kernel
theorem dX4_note_34 : decode cX4_note 34 = .ok (.aload_n 0, 1) := by decide +kernel
theorem dX4_note_35 : decode cX4_note 35 = .ok (.getfield 45, 3) := by decide +kernel
theorem dX4_note_38 : decode cX4_note 38 = .ok (.if_icmp .ne 13, 3) := by decide +kernel
theorem dX4_note_41 : decode cX4_note 41 = .ok (.aload_n 0, 1) := by decide +kernel
theorem dX4_note_42 : decode cX4_note 42 = .ok (.dup, 1) := by decide +kernel
theorem dX4_note_43 : decode cX4_note 43 = .ok (.getfield 78, 3) := by decide +kernel
theorem dX4_note_46 : decode cX4_note 46 = .ok (.iconst 1, 1) := by decide +kernel
theorem dX4_note_47 : decode cX4_note 47 = .ok (.iadd, 1) := by decide +kernel
theorem dX4_note_48 : decode cX4_note 48 = .ok (.putfield 78, 3) := by decide +kernel
theorem dX4_note_51 : decode cX4_note 51 = .ok (.return_, 1) := by decide +kernel
theorem dX4_step_0 : decode cX4_step 0 = .ok (.iload_n 1, 1) := by decide +kernel
theorem dX4_step_1 : decode cX4_step 1 = .ok (.iconst 2, 1) := by decide +kernel
theorem dX4_step_2 : decode cX4_step 2 = .ok (.isub, 1) := by decide +kernel
theorem dX4_step_3 : decode cX4_step 3 = .ok (.istore_n 2, 1) := by decide +kernel
theorem dX4_step_4 : decode cX4_step 4 = .ok (.iload_n 2, 1) := by decide +kernel
theorem dX4_step_5 : decode cX4_step 5 = .ok (.ifCond .lt 26, 3) := by decide +kernel
theorem dX4_step_8 : decode cX4_step 8 = .ok (.aload_n 0, 1) := by decide +kernel
theorem dX4_step_9 : decode cX4_step 9 = .ok (.getfield 22, 3) := by decide +kernel
theorem dX4_step_12 : decode cX4_step 12 = .ok (.iload_n 2, 1) := by decide +kernel
theorem dX4_step_13 : decode cX4_step 13 = .ok (.iaload, 1) := by decide +kernel
theorem dX4_step_14 : decode cX4_step 14 = .ok (.aload_n 0, 1) := by decide +kernel
theorem dX4_step_15 : decode cX4_step 15 = .ok (.getfield 22, 3) := by decide +kernel
theorem dX4_step_18 : decode cX4_step 18 = .ok (.iload_n 2, 1) := by decide +kernel
theorem dX4_step_19 : decode cX4_step 19 = .ok (.iconst 1, 1) := by decide +kernel
theorem dX4_step_20 : decode cX4_step 20 = .ok (.iadd, 1) := by decide +kernel
theorem dX4_step_21 : decode cX4_step 21 = .ok (.iaload, 1) := by decide +kernel
theorem dX4_step_22 : decode cX4_step 22 = .ok (.if_icmp .le 9, 3) := by decide +kernel
theorem dX4_step_25 : decode cX4_step 25 = .ok (.iinc 2 (-1), 3) := by decide +kernel
theorem dX4_step_28 : decode cX4_step 28 = .ok (.goto (-24), 3) := by decide +kernel
theorem dX4_step_31 : decode cX4_step 31 = .ok (.iload_n 2, 1) := by decide +kernel
theorem dX4_step_32 : decode cX4_step 32 = .ok (.ifCond .ge 5, 3) := by decide +kernel
theorem dX4_step_35 : decode cX4_step 35 = .ok (.iconst 0, 1) := by decide +kernel
theorem dX4_step_36 : decode cX4_step 36 = .ok (.ireturn, 1) := by decide +kernel
theorem dX4_step_37 : decode cX4_step 37 = .ok (.iload_n 1, 1) := by decide +kernel
theorem dX4_step_38 : decode cX4_step 38 = .ok (.iconst 1, 1) := by decide +kernel
theorem dX4_step_39 : decode cX4_step 39 = .ok (.isub, 1) := by decide +kernel
theorem dX4_step_40 : decode cX4_step 40 = .ok (.istore_n 3, 1) := by decide +kernel
theorem dX4_step_41 : decode cX4_step 41 = .ok (.iload_n 3, 1) := by decide +kernel
theorem dX4_step_42 : decode cX4_step 42 = .ok (.iload_n 2, 1) := by decide +kernel
theorem dX4_step_43 : decode cX4_step 43 = .ok (.if_icmp .le 24, 3) := by decide +kernel
theorem dX4_step_46 : decode cX4_step 46 = .ok (.aload_n 0, 1) := by decide +kernel
theorem dX4_step_47 : decode cX4_step 47 = .ok (.getfield 22, 3) := by decide +kernel
theorem dX4_step_50 : decode cX4_step 50 = .ok (.iload_n 3, 1) := by decide +kernel
theorem dX4_step_51 : decode cX4_step 51 = .ok (.iaload, 1) := by decide +kernel
theorem dX4_step_52 : decode cX4_step 52 = .ok (.aload_n 0, 1) := by decide +kernel
theorem dX4_step_53 : decode cX4_step 53 = .ok (.getfield 22, 3) := by decide +kernel
theorem dX4_step_56 : decode cX4_step 56 = .ok (.iload_n 2, 1) := by decide +kernel
theorem dX4_step_57 : decode cX4_step 57 = .ok (.iaload, 1) := by decide +kernel
theorem dX4_step_58 : decode cX4_step 58 = .ok (.if_icmp .ge 9, 3) := by decide +kernel
theorem dX4_step_61 : decode cX4_step 61 = .ok (.iinc 3 (-1), 3) := by decide +kernel
theorem dX4_step_64 : decode cX4_step 64 = .ok (.goto (-23), 3) := by decide +kernel
theorem dX4_step_67 : decode cX4_step 67 = .ok (.aload_n 0, 1) := by decide +kernel
theorem dX4_step_68 : decode cX4_step 68 = .ok (.iload_n 2, 1) := by decide +kernel
theorem dX4_step_69 : decode cX4_step 69 = .ok (.iload_n 3, 1) := by decide +kernel
theorem dX4_step_70 : decode cX4_step 70 = .ok (.invokevirtual 87, 3) := by decide +kernel
theorem dX4_step_73 : decode cX4_step 73 = .ok (.iload_n 2, 1) := by decide +kernel
theorem dX4_step_74 : decode cX4_step 74 = .ok (.iconst 1, 1) := by decide +kernel
theorem dX4_step_75 : decode cX4_step 75 = .ok (.iadd, 1) := by decide +kernel
theorem dX4_step_76 : decode cX4_step 76 = .ok (.istore 4, 2) := by decide +kernel
theorem dX4_step_78 : decode cX4_step 78 = .ok (.iload_n 1, 1) := by decide +kernel
theorem dX4_step_79 : decode cX4_step 79 = .ok (.iconst 1, 1) := by decide +kernel
theorem dX4_step_80 : decode cX4_step 80 = .ok (.isub, 1) := by decide +kernel
theorem dX4_step_81 : decode cX4_step 81 = .ok (.istore 5, 2) := by decide +kernel
theorem dX4_step_83 : decode cX4_step 83 = .ok (.iload 4, 2) := by decide +kernel
theorem dX4_step_85 : decode cX4_step 85 = .ok (.iload 5, 2) := by decide +kernel
theorem dX4_step_87 : decode cX4_step 87 = .ok (.if_icmp .ge 20, 3) := by decide +kernel
theorem dX4_step_90 : decode cX4_step 90 = .ok (.aload_n 0, 1) := by decide +kernel
theorem dX4_step_91 : decode cX4_step 91 = .ok (.iload 4, 2) := by decide +kernel
theorem dX4_step_93 : decode cX4_step 93 = .ok (.iload 5, 2) := by decide +kernel
theorem dX4_step_95 : decode cX4_step 95 = .ok (.invokevirtual 87, 3) := by decide +kernel
theorem dX4_step_98 : decode cX4_step 98 = .ok (.iinc 4 1, 3) := by decide +kernel
theorem dX4_step_101 : decode cX4_step 101 = .ok (.iinc 5 (-1), 3) := by decide +kernel
theorem dX4_step_104 : decode cX4_step 104 = .ok (.goto (-21), 3) := by decide +kernel
theorem dX4_step_107 : decode cX4_step 107 = .ok (.iconst 1, 1) := by decide +kernel
theorem dX4_step_108 : decode cX4_step 108 = .ok (.ireturn, 1) := by decide +kernel
theorem dX4_exchange_0 : decode cX4_exchange 0 = .ok (.aload_n 0, 1) := by decide +kernel
theorem dX4_exchange_1 : decode cX4_exchange 1 = .ok (.getfield 22, 3) := by decide +kernel
theorem dX4_exchange_4 : decode cX4_exchange 4 = .ok (.iload_n 1, 1) := by decide +kernel
theorem dX4_exchange_5 : decode cX4_exchange 5 = .ok (.iaload, 1) := by decide +kernel
theorem dX4_exchange_6 : decode cX4_exchange 6 = .ok (.istore_n 3, 1) := by decide +kernel
theorem dX4_exchange_7 : decode cX4_exchange 7 = .ok (.aload_n 0, 1) := by decide +kernel
theorem dX4_exchange_8 : decode cX4_exchange 8 = .ok (.getfield 22, 3) := by decide +kernel
theorem dX4_exchange_11 : decode cX4_exchange 11 = .ok (.iload_n 1, 1) := by decide +kernel
theorem dX4_exchange_12 : decode cX4_exchange 12 = .ok (.aload_n 0, 1) := by decide +kernel
theorem dX4_exchange_13 : decode cX4_exchange 13 = .ok (.getfield 22, 3) := by decide +kernel
theorem dX4_exchange_16 : decode cX4_exchange 16 = .ok (.iload_n 2, 1) := by decide +kernel
theorem dX4_exchange_17 : decode cX4_exchange 17 = .ok (.iaload, 1) := by decide +kernel
theorem dX4_exchange_18 : decode cX4_exchange 18 = .ok (.iastore, 1) := by decide +kernel
theorem dX4_exchange_19 : decode cX4_exchange 19 = .ok (.aload_n 0, 1) := by decide +kernel
theorem dX4_exchange_20 : decode cX4_exchange 20 = .ok (.getfield 22, 3) := by decide +kernel
theorem dX4_exchange_23 : decode cX4_exchange 23 = .ok (.iload_n 2, 1) := by decide +kernel
theorem dX4_exchange_24 : decode cX4_exchange 24 = .ok (.iload_n 3, 1) := by decide +kernel
theorem dX4_exchange_25 : decode cX4_exchange 25 = .ok (.iastore, 1) := by decide +kernel
theorem dX4_exchange_26 : decode cX4_exchange 26 = .ok (.return_, 1) := by decide +kernel
theorem dX5_init_0 : decode cX5_init 0 = .ok (.aload_n 0, 1) := by decide +kernel
theorem dX5_init_1 : decode cX5_init 1 = .ok (.invokespecial 3, 3) := by decide +kernel
theorem dX5_init_4 : decode cX5_init 4 = .ok (.aload_n 0, 1) := by decide +kernel
theorem dX5_init_5 : decode cX5_init 5 = .ok (.bipush 7, 2) := by decide +kernel
theorem dX5_init_7 : decode cX5_init 7 = .ok (.newarray .int, 2) := by decide +kernel
theorem dX5_init_9 : decode cX5_init 9 = .ok (.putfield 9, 3) := by decide +kernel
theorem dX5_init_12 : decode cX5_init 12 = .ok (.aload_n 0, 1) := by decide +kernel
theorem dX5_init_13 : decode cX5_init 13 = .ok (.bipush 64, 2) := by decide +kernel
theorem dX5_init_15 : decode cX5_init 15 = .ok (.newarray .int, 2) := by decide +kernel
theorem dX5_init_17 : decode cX5_init 17 = .ok (.putfield 15, 3) := by decide +kernel
theorem dX5_init_20 : decode cX5_init 20 = .ok (.return_, 1) := by decide +kernel
theorem dX5_put_0 : decode cX5_put 0 = .ok (.aload_n 0, 1) := by decide +kernel
theorem dX5_put_1 : decode cX5_put 1 = .ok (.getfield 9, 3) := by decide +kernel
theorem dX5_put_4 : decode cX5_put 4 = .ok (.iconst 0, 1) := by decide +kernel
theorem dX5_put_5 : decode cX5_put 5 = .ok (.iload_n 1, 1) := by decide +kernel
theorem dX5_put_6 : decode cX5_put 6 = .ok (.iastore, 1) := by decide +kernel
theorem dX5_put_7 : decode cX5_put 7 = .ok (.aload_n 0, 1) := by decide +kernel
theorem dX5_put_8 : decode cX5_put 8 = .ok (.getfield 9, 3) := by decide +kernel
theorem dX5_put_11 : decode cX5_put 11 = .ok (.iconst 1, 1) := by decide +kernel
theorem dX5_put_12 : decode cX5_put 12 = .ok (.iload_n 2, 1) := by decide +kernel
theorem dX5_put_13 : decode cX5_put 13 = .ok (.iastore, 1) := by decide +kernel
theorem dX5_put_14 : decode cX5_put 14 = .ok (.aload_n 0, 1) := by decide +kernel
theorem dX5_put_15 : decode cX5_put 15 = .ok (.getfield 9, 3) := by decide +kernel
theorem dX5_put_18 : decode cX5_put 18 = .ok (.iconst 2, 1) := by decide +kernel
theorem dX5_put_19 : decode cX5_put 19 = .ok (.iload_n 3, 1) := by decide +kernel
theorem dX5_put_20 : decode cX5_put 20 = .ok (.sipush 1000, 3) := by decide +kernel
theorem dX5_put_23 : decode cX5_put 23 = .ok (.irem, 1) := by decide +kernel
theorem dX5_put_24 : decode cX5_put 24 = .ok (.iastore, 1) := by decide +kernel
theorem dX5_put_25 : decode cX5_put 25 = .ok (.aload_n 0, 1) := by decide +kernel
theorem dX5_put_26 : decode cX5_put 26 = .ok (.getfield 9, 3) := by decide +kernel
theorem dX5_put_29 : decode cX5_put 29 = .ok (.iconst 3, 1) := by decide +kernel
theorem dX5_put_30 : decode cX5_put 30 = .ok (.iload 4, 2) := by decide +kernel
theorem dX5_put_32 : decode cX5_put 32 = .ok (.iastore, 1) := by decide +kernel
theorem dX5_put_33 : decode cX5_put 33 = .ok (.return_, 1) := by decide +kernel
theorem dX5_weigh_0 : decode cX5_weigh 0 = .ok (.iconst 0, 1) := by decide +kernel
theorem dX5_weigh_1 : decode cX5_weigh 1 = .ok (.istore_n 2, 1) := by decide +kernel
theorem dX5_weigh_2 : decode cX5_weigh 2 = .ok (.iconst 0, 1) := by decide +kernel
theorem dX5_weigh_3 : decode cX5_weigh 3 = .ok (.istore_n 3, 1) := by decide +kernel
theorem dX5_weigh_4 : decode cX5_weigh 4 = .ok (.iload_n 3, 1) := by decide +kernel
theorem dX5_weigh_5 : decode cX5_weigh 5 = .ok (.aload_n 1, 1) := by decide +kernel
theorem dX5_weigh_6 : decode cX5_weigh 6 = .ok (.arraylength, 1) := by decide +kernel
theorem dX5_weigh_7 : decode cX5_weigh 7 = .ok (.if_icmp .ge 158, 3) := by decide +kernel
theorem dX5_weigh_10 : decode cX5_weigh 10 = .ok (.aload_n 1, 1) := by decide +kernel
theorem dX5_weigh_11 : decode cX5_weigh 11 = .ok (.iload_n 3, 1) := by decide +kernel
theorem dX5_weigh_12 : decode cX5_weigh 12 = .ok (.iaload, 1) := by decide +kernel
theorem dX5_weigh_13 : decode cX5_weigh 13 = .ok (.sipush 1000, 3) := by decide +kernel
theorem dX5_weigh_16 : decode cX5_weigh 16 = .ok (.isub, 1) := by decide +kernel
theorem dX5_weigh_17 : decode cX5_weigh 17 = .ok (.istore 4, 2) := by decide +kernel
theorem dX5_weigh_19 : decode cX5_weigh 19 = .ok (.iload 4, 2) := by decide +kernel
theorem dX5_weigh_21 : decode cX5_weigh 21 = .ok (.ifCond .lt 19, 3) := by decide +kernel
theorem dX5_weigh_24 : decode cX5_weigh 24 = .ok (.iload 4, 2) := by decide +kernel
theorem dX5_weigh_26 : decode cX5_weigh 26 = .ok (.sipush 128, 3) := by decide +kernel
theorem dX5_weigh_29 : decode cX5_weigh 29 = .ok (.if_icmp .lt 56, 3) := by decide +kernel
theorem dX5_weigh_32 : decode cX5_weigh 32 = .ok (.iload 4, 2) := by decide +kernel
theorem dX5_weigh_34 : decode cX5_weigh 34 = .ok (.sipush 134, 3) := by decide +kernel
theorem dX5_weigh_37 : decode cX5_weigh 37 = .ok (.if_icmp .gt 48, 3) := by decide +kernel
theorem dX5_weigh_40 : decode cX5_weigh 40 = .ok (.iload_n 2, 1) := by decide +kernel
theorem dX5_weigh_41 : decode cX5_weigh 41 = .ok (.aload_n 0, 1) := by decide +kernel
theorem dX5_weigh_42 : decode cX5_weigh 42 = .ok (.getfield 15, 3) := by decide +kernel
theorem dX5_weigh_45 : decode cX5_weigh 45 = .ok (.arraylength, 1) := by decide +kernel
theorem dX5_weigh_46 : decode cX5_weigh 46 = .ok (.if_icmp .lt 5, 3) := by decide +kernel
theorem dX5_weigh_49 : decode cX5_weigh 49 = .ok (.iconst 0, 1) := by decide +kernel
theorem dX5_weigh_50 : decode cX5_weigh 50 = .ok (.ireturn, 1) := by decide +kernel
theorem dX5_weigh_51 : decode cX5_weigh 51 = .ok (.aload_n 0, 1) := by decide +kernel
theorem dX5_weigh_52 : decode cX5_weigh 52 = .ok (.getfield 15, 3) := by decide +kernel
theorem dX5_weigh_55 : decode cX5_weigh 55 = .ok (.iload_n 2, 1) := by decide +kernel
theorem dX5_weigh_56 : decode cX5_weigh 56 = .ok (.iload 4, 2) := by decide +kernel
theorem dX5_weigh_58 : decode cX5_weigh 58 = .ok (.ifCond .ge 9, 3) := by decide +kernel
theorem dX5_weigh_61 : decode cX5_weigh 61 = .ok (.aload_n 1, 1) := by decide +kernel
theorem dX5_weigh_62 : decode cX5_weigh 62 = .ok (.iload_n 3, 1) := by decide +kernel
theorem dX5_weigh_63 : decode cX5_weigh 63 = .ok (.iaload, 1) := by decide +kernel
theorem dX5_weigh_64 : decode cX5_weigh 64 = .ok (.goto 14, 3) := by decide +kernel
theorem dX5_weigh_67 : decode cX5_weigh 67 = .ok (.aload_n 0, 1) := by decide +kernel
theorem dX5_weigh_68 : decode cX5_weigh 68 = .ok (.getfield 9, 3) := by decide +kernel
theorem dX5_weigh_71 : decode cX5_weigh 71 = .ok (.iload 4, 2) := by decide +kernel
theorem dX5_weigh_73 : decode cX5_weigh 73 = .ok (.sipush 128, 3) := by decide +kernel
theorem dX5_weigh_76 : decode cX5_weigh 76 = .ok (.isub, 1) := by decide +kernel
theorem dX5_weigh_77 : decode cX5_weigh 77 = .ok (.iaload, 1) := by decide +kernel
theorem dX5_weigh_78 : decode cX5_weigh 78 = .ok (.iastore, 1) := by decide +kernel
theorem dX5_weigh_79 : decode cX5_weigh 79 = .ok (.iinc 2 1, 3) := by decide +kernel
theorem dX5_weigh_82 : decode cX5_weigh 82 = .ok (.goto 77, 3) := by decide +kernel
theorem dX5_weigh_85 : decode cX5_weigh 85 = .ok (.iload 4, 2) := by decide +kernel
theorem dX5_weigh_87 : decode cX5_weigh 87 = .ok (.sipush 145, 3) := by decide +kernel
theorem dX5_weigh_90 : decode cX5_weigh 90 = .ok (.if_icmp .ne 31, 3) := by decide +kernel
theorem dX5_weigh_93 : decode cX5_weigh 93 = .ok (.iload_n 2, 1) := by decide +kernel
theorem dX5_weigh_94 : decode cX5_weigh 94 = .ok (.iconst 1, 1) := by decide +kernel
theorem dX5_weigh_95 : decode cX5_weigh 95 = .ok (.if_icmp .ge 5, 3) := by decide +kernel
theorem dX5_weigh_98 : decode cX5_weigh 98 = .ok (.iconst 0, 1) := by decide +kernel
theorem dX5_weigh_99 : decode cX5_weigh 99 = .ok (.ireturn, 1) := by decide +kernel
theorem dX5_weigh_100 : decode cX5_weigh 100 = .ok (.aload_n 0, 1) := by decide +kernel
theorem dX5_weigh_101 : decode cX5_weigh 101 = .ok (.getfield 15, 3) := by decide +kernel
theorem dX5_weigh_104 : decode cX5_weigh 104 = .ok (.iload_n 2, 1) := by decide +kernel
theorem dX5_weigh_105 : decode cX5_weigh 105 = .ok (.iconst 1, 1) := by decide +kernel
theorem dX5_weigh_106 : decode cX5_weigh 106 = .ok (.isub, 1) := by decide +kernel
theorem dX5_weigh_107 : decode cX5_weigh 107 = .ok (.iconst 1, 1) := by decide +kernel
theorem dX5_weigh_108 : decode cX5_weigh 108 = .ok (.aload_n 0, 1) := by decide +kernel
theorem dX5_weigh_109 : decode cX5_weigh 109 = .ok (.getfield 15, 3) := by decide +kernel
theorem dX5_weigh_112 : decode cX5_weigh 112 = .ok (.iload_n 2, 1) := by decide +kernel
theorem dX5_weigh_113 : decode cX5_weigh 113 = .ok (.iconst 1, 1) := by decide +kernel
theorem dX5_weigh_114 : decode cX5_weigh 114 = .ok (.isub, 1) := by decide +kernel
theorem dX5_weigh_115 : decode cX5_weigh 115 = .ok (.iaload, 1) := by decide +kernel
theorem dX5_weigh_116 : decode cX5_weigh 116 = .ok (.isub, 1) := by decide +kernel
theorem dX5_weigh_117 : decode cX5_weigh 117 = .ok (.iastore, 1) := by decide +kernel
theorem dX5_weigh_118 : decode cX5_weigh 118 = .ok (.goto 41, 3) := by decide +kernel
theorem dX5_weigh_121 : decode cX5_weigh 121 = .ok (.iload_n 2, 1) := by decide +kernel
theorem dX5_weigh_122 : decode cX5_weigh 122 = .ok (.iconst 2, 1) := by decide +kernel
theorem dX5_weigh_123 : decode cX5_weigh 123 = .ok (.if_icmp .ge 5, 3) := by decide +kernel
theorem dX5_weigh_126 : decode cX5_weigh 126 = .ok (.iconst 0, 1) := by decide +kernel
theorem dX5_weigh_127 : decode cX5_weigh 127 = .ok (.ireturn, 1) := by decide +kernel
theorem dX5_weigh_128 : decode cX5_weigh 128 = .ok (.iinc 2 (-1), 3) := by decide +kernel
theorem dX5_weigh_131 : decode cX5_weigh 131 = .ok (.aload_n 0, 1) := by decide +kernel
theorem dX5_weigh_132 : decode cX5_weigh 132 = .ok (.getfield 15, 3) := by decide +kernel
theorem dX5_weigh_135 : decode cX5_weigh 135 = .ok (.iload_n 2, 1) := by decide +kernel
theorem dX5_weigh_136 : decode cX5_weigh 136 = .ok (.iconst 1, 1) := by decide +kernel
theorem dX5_weigh_137 : decode cX5_weigh 137 = .ok (.isub, 1) := by decide +kernel
theorem dX5_weigh_138 : decode cX5_weigh 138 = .ok (.aload_n 0, 1) := by decide +kernel
theorem dX5_weigh_139 : decode cX5_weigh 139 = .ok (.iload 4, 2) := by decide +kernel
theorem dX5_weigh_141 : decode cX5_weigh 141 = .ok (.aload_n 0, 1) := by decide +kernel
theorem dX5_weigh_142 : decode cX5_weigh 142 = .ok (.getfield 15, 3) := by decide +kernel
theorem dX5_weigh_145 : decode cX5_weigh 145 = .ok (.iload_n 2, 1) := by decide +kernel
theorem dX5_weigh_146 : decode cX5_weigh 146 = .ok (.iconst 1, 1) := by decide +kernel
theorem dX5_weigh_147 : decode cX5_weigh 147 = .ok (.isub, 1) := by decide +kernel
theorem dX5_weigh_148 : decode cX5_weigh 148 = .ok (.iaload, 1) := by decide +kernel
theorem dX5_weigh_149 : decode cX5_weigh 149 = .ok (.aload_n 0, 1) := by decide +kernel
theorem dX5_weigh_150 : decode cX5_weigh 150 = .ok (.getfield 15, 3) := by decide +kernel
theorem dX5_weigh_153 : decode cX5_weigh 153 = .ok (.iload_n 2, 1) := by decide +kernel
theorem dX5_weigh_154 : decode cX5_weigh 154 = .ok (.iaload, 1) := by decide +kernel
theorem dX5_weigh_155 : decode cX5_weigh 155 = .ok (.invokevirtual 18, 3) := by decide +kernel
theorem dX5_weigh_158 : decode cX5_weigh 158 = .ok (.iastore, 1) := by decide +kernel
theorem dX5_weigh_159 : decode cX5_weigh 159 = .ok (.iinc 3 1, 3) := by decide +kernel
theorem dX5_weigh_162 : decode cX5_weigh 162 = .ok (.goto (-158), 3) := by decide +kernel
theorem dX5_weigh_165 : decode cX5_weigh 165 = .ok (.iload_n 2, 1) := by decide +kernel
theorem dX5_weigh_166 : decode cX5_weigh 166 = .ok (.iconst 1, 1) := by decide +kernel
theorem dX5_weigh_167 : decode cX5_weigh 167 = .ok (.if_icmp .ge 7, 3) := by decide +kernel
theorem dX5_weigh_170 : decode cX5_weigh 170 = .ok (.iconst 0, 1) := by decide +kernel
theorem dX5_weigh_171 : decode cX5_weigh 171 = .ok (.goto 9, 3) := by decide +kernel
theorem dX5_weigh_174 : decode cX5_weigh 174 = .ok (.aload_n 0, 1) := by decide +kernel
theorem dX5_weigh_175 : decode cX5_weigh 175 = .ok (.getfield 15, 3) := by decide +kernel
theorem dX5_weigh_178 : decode cX5_weigh 178 = .ok (.iconst 0, 1) := by decide +kernel
theorem dX5_weigh_179 : decode cX5_weigh 179 = .ok (.iaload, 1) := by decide +kernel
theorem dX5_weigh_180 : decode cX5_weigh 180 = .ok (.ireturn, 1) := by decide +kernel
theorem dX5_join_0 : decode cX5_join 0 = .ok (.iload_n 1, 1) := by decide +kernel
theorem dX5_join_1 : decode cX5_join 1 = .ok (.lookupswitch 92 #[(60, 62), (61, 51), (62, 73), (146, 84), (147, 88)], 51) := by decide +kernel
theorem dX5_join_52 : decode cX5_join 52 = .ok (.iload_n 2, 1) := by decide +kernel
theorem dX5_join_53 : decode cX5_join 53 = .ok (.iload_n 3, 1) := by decide +kernel
theorem dX5_join_54 : decode cX5_join 54 = .ok (.if_icmp .ne 7, 3) := by decide +kernel
theorem dX5_join_57 : decode cX5_join 57 = .ok (.iconst 1, 1) := by decide +kernel
theorem dX5_join_58 : decode cX5_join 58 = .ok (.goto 4, 3) := by decide +kernel
theorem dX5_join_61 : decode cX5_join 61 = .ok (.iconst 0, 1) := by decide +kernel
theorem dX5_join_62 : decode cX5_join 62 = .ok (.ireturn, 1) := by decide +kernel
theorem dX5_join_63 : decode cX5_join 63 = .ok (.iload_n 2, 1) := by decide +kernel
theorem dX5_join_64 : decode cX5_join 64 = .ok (.iload_n 3, 1) := by decide +kernel
theorem dX5_join_65 : decode cX5_join 65 = .ok (.if_icmp .ge 7, 3) := by decide +kernel
theorem dX5_join_68 : decode cX5_join 68 = .ok (.iconst 1, 1) := by decide +kernel
theorem dX5_join_69 : decode cX5_join 69 = .ok (.goto 4, 3) := by decide +kernel
theorem dX5_join_72 : decode cX5_join 72 = .ok (.iconst 0, 1) := by decide +kernel
theorem dX5_join_73 : decode cX5_join 73 = .ok (.ireturn, 1) := by decide +kernel
theorem dX5_join_74 : decode cX5_join 74 = .ok (.iload_n 2, 1) := by decide +kernel
theorem dX5_join_75 : decode cX5_join 75 = .ok (.iload_n 3, 1) := by decide +kernel
theorem dX5_join_76 : decode cX5_join 76 = .ok (.if_icmp .le 7, 3) := by decide +kernel
theorem dX5_join_79 : decode cX5_join 79 = .ok (.iconst 1, 1) := by decide +kernel
theorem dX5_join_80 : decode cX5_join 80 = .ok (.goto 4, 3) := by decide +kernel
theorem dX5_join_83 : decode cX5_join 83 = .ok (.iconst 0, 1) := by decide +kernel
theorem dX5_join_84 : decode cX5_join 84 = .ok (.ireturn, 1) := by decide +kernel
theorem dX5_join_85 : decode cX5_join 85 = .ok (.iload_n 2, 1) := by decide +kernel
theorem dX5_join_86 : decode cX5_join 86 = .ok (.iload_n 3, 1) := by decide +kernel
theorem dX5_join_87 : decode cX5_join 87 = .ok (.iand, 1) := by decide +kernel
theorem dX5_join_88 : decode cX5_join 88 = .ok (.ireturn, 1) := by decide +kernel
theorem dX5_join_89 : decode cX5_join 89 = .ok (.iload_n 2, 1) := by decide +kernel
theorem dX5_join_90 : decode cX5_join 90 = .ok (.iload_n 3, 1) := by decide +kernel
theorem dX5_join_91 : decode cX5_join 91 = .ok (.ior, 1) := by decide +kernel
theorem dX5_join_92 : decode cX5_join 92 = .ok (.ireturn, 1) := by decide +kernel
theorem dX5_join_93 : decode cX5_join 93 = .ok (.iload_n 1, 1) := by decide +kernel
theorem dX5_join_94 : decode cX5_join 94 = .ok (.bipush 43, 2) := by decide +kernel
theorem dX5_join_96 : decode cX5_join 96 = .ok (.if_icmp .ne 11, 3) := by decide +kernel
theorem dX5_join_99 : decode cX5_join 99 = .ok (.iload_n 2, 1) := by decide +kernel
theorem dX5_join_100 : decode cX5_join 100 = .ok (.i2l, 1) := by decide +kernel
theorem dX5_join_101 : decode cX5_join 101 = .ok (.iload_n 3, 1) := by decide +kernel
theorem dX5_join_102 : decode cX5_join 102 = .ok (.i2l, 1) := by decide +kernel
theorem dX5_join_103 : decode cX5_join 103 = .ok (.ladd, 1) := by decide +kernel
theorem dX5_join_104 : decode cX5_join 104 = .ok (.goto 22, 3) := by decide +kernel
theorem dX5_join_107 : decode cX5_join 107 = .ok (.iload_n 1, 1) := by decide +kernel
theorem dX5_join_108 : decode cX5_join 108 = .ok (.bipush 45, 2) := by decide +kernel
theorem dX5_join_110 : decode cX5_join 110 = .ok (.if_icmp .ne 11, 3) := by decide +kernel
theorem dX5_join_113 : decode cX5_join 113 = .ok (.iload_n 2, 1) := by decide +kernel
theorem dX5_join_114 : decode cX5_join 114 = .ok (.i2l, 1) := by decide +kernel
theorem dX5_join_115 : decode cX5_join 115 = .ok (.iload_n 3, 1) := by decide +kernel
theorem dX5_join_116 : decode cX5_join 116 = .ok (.i2l, 1) := by decide +kernel
theorem dX5_join_117 : decode cX5_join 117 = .ok (.lsub, 1) := by decide +kernel
theorem dX5_join_118 : decode cX5_join 118 = .ok (.goto 8, 3) := by decide +kernel
theorem dX5_join_121 : decode cX5_join 121 = .ok (.iload_n 2, 1) := by decide +kernel
theorem dX5_join_122 : decode cX5_join 122 = .ok (.i2l, 1) := by decide +kernel
theorem dX5_join_123 : decode cX5_join 123 = .ok (.iload_n 3, 1) := by decide +kernel
theorem dX5_join_124 : decode cX5_join 124 = .ok (.i2l, 1) := by decide +kernel
theorem dX5_join_125 : decode cX5_join 125 = .ok (.lmul, 1) := by decide +kernel
theorem dX5_join_126 : decode cX5_join 126 = .ok (.lstore 4, 2) := by decide +kernel
theorem dX5_join_128 : decode cX5_join 128 = .ok (.lload 4, 2) := by decide +kernel
theorem dX5_join_130 : decode cX5_join 130 = .ok (.ldc2_w 22, 3) := by decide +kernel
theorem dX5_join_133 : decode cX5_join 133 = .ok (.lcmp, 1) := by decide +kernel
theorem dX5_join_134 : decode cX5_join 134 = .ok (.ifCond .le 9, 3) := by decide +kernel
theorem dX5_join_137 : decode cX5_join 137 = .ok (.ldc2_w 22, 3) := by decide +kernel
theorem dX5_join_140 : decode cX5_join 140 = .ok (.goto 20, 3) := by decide +kernel
theorem dX5_join_143 : decode cX5_join 143 = .ok (.lload 4, 2) := by decide +kernel
theorem dX5_join_145 : decode cX5_join 145 = .ok (.ldc2_w 24, 3) := by decide +kernel
theorem dX5_join_148 : decode cX5_join 148 = .ok (.lcmp, 1) := by decide +kernel
theorem dX5_join_149 : decode cX5_join 149 = .ok (.ifCond .ge 9, 3) := by decide +kernel
theorem dX5_join_152 : decode cX5_join 152 = .ok (.ldc2_w 24, 3) := by decide +kernel
theorem dX5_join_155 : decode cX5_join 155 = .ok (.goto 5, 3) := by decide +kernel
theorem dX5_join_158 : decode cX5_join 158 = .ok (.lload 4, 2) := by decide +kernel
theorem dX5_join_160 : decode cX5_join 160 = .ok (.l2i, 1) := by decide +kernel
theorem dX5_join_161 : decode cX5_join 161 = .ok (.ireturn, 1) := by decide +kernel
theorem dX6_init_0 : decode cX6_init 0 = .ok (.aload_n 0, 1) := by decide +kernel
theorem dX6_init_1 : decode cX6_init 1 = .ok (.invokespecial 3, 3) := by decide +kernel
theorem dX6_init_4 : decode cX6_init 4 = .ok (.aload_n 0, 1) := by decide +kernel
theorem dX6_init_5 : decode cX6_init 5 = .ok (.bipush 7, 2) := by decide +kernel
theorem dX6_init_7 : decode cX6_init 7 = .ok (.newarray .int, 2) := by decide +kernel
theorem dX6_init_9 : decode cX6_init 9 = .ok (.putfield 9, 3) := by decide +kernel
theorem dX6_init_12 : decode cX6_init 12 = .ok (.aload_n 0, 1) := by decide +kernel
theorem dX6_init_13 : decode cX6_init 13 = .ok (.bipush 7, 2) := by decide +kernel
theorem dX6_init_15 : decode cX6_init 15 = .ok (.newarray .int, 2) := by decide +kernel
theorem dX6_init_17 : decode cX6_init 17 = .ok (.putfield 15, 3) := by decide +kernel
theorem dX6_init_20 : decode cX6_init 20 = .ok (.aload_n 0, 1) := by decide +kernel
theorem dX6_init_21 : decode cX6_init 21 = .ok (.bipush 7, 2) := by decide +kernel
theorem dX6_init_23 : decode cX6_init 23 = .ok (.newarray .int, 2) := by decide +kernel
theorem dX6_init_25 : decode cX6_init 25 = .ok (.putfield 18, 3) := by decide +kernel
theorem dX6_init_28 : decode cX6_init 28 = .ok (.aload_n 0, 1) := by decide +kernel
theorem dX6_init_29 : decode cX6_init 29 = .ok (.bipush 7, 2) := by decide +kernel
theorem dX6_init_31 : decode cX6_init 31 = .ok (.newarray .int, 2) := by decide +kernel
theorem dX6_init_33 : decode cX6_init 33 = .ok (.putfield 21, 3) := by decide +kernel
theorem dX6_init_36 : decode cX6_init 36 = .ok (.aload_n 0, 1) := by decide +kernel
theorem dX6_init_37 : decode cX6_init 37 = .ok (.bipush 7, 2) := by decide +kernel
theorem dX6_init_39 : decode cX6_init 39 = .ok (.newarray .int, 2) := by decide +kernel
theorem dX6_init_41 : decode cX6_init 41 = .ok (.putfield 24, 3) := by decide +kernel
theorem dX6_init_44 : decode cX6_init 44 = .ok (.aload_n 0, 1) := by decide +kernel
theorem dX6_init_45 : decode cX6_init 45 = .ok (.bipush 7, 2) := by decide +kernel
theorem dX6_init_47 : decode cX6_init 47 = .ok (.newarray .int, 2) := by decide +kernel
theorem dX6_init_49 : decode cX6_init 49 = .ok (.putfield 27, 3) := by decide +kernel
theorem dX6_init_52 : decode cX6_init 52 = .ok (.return_, 1) := by decide +kernel
theorem dX6_has_0 : decode cX6_has 0 = .ok (.iload_n 1, 1) := by decide +kernel
theorem dX6_has_1 : decode cX6_has 1 = .ok (.ifCond .lt 21, 3) := by decide +kernel
theorem dX6_has_4 : decode cX6_has 4 = .ok (.iload_n 1, 1) := by decide +kernel
theorem dX6_has_5 : decode cX6_has 5 = .ok (.aload_n 0, 1) := by decide +kernel
theorem dX6_has_6 : decode cX6_has 6 = .ok (.getfield 30, 3) := by decide +kernel
theorem dX6_has_9 : decode cX6_has 9 = .ok (.if_icmp .ge 13, 3) := by decide +kernel
theorem dX6_has_12 : decode cX6_has 12 = .ok (.iload_n 1, 1) := by decide +kernel
theorem dX6_has_13 : decode cX6_has 13 = .ok (.bipush 7, 2) := by decide +kernel
theorem dX6_has_15 : decode cX6_has 15 = .ok (.if_icmp .ge 7, 3) := by decide +kernel
theorem dX6_has_18 : decode cX6_has 18 = .ok (.iconst 1, 1) := by decide +kernel
theorem dX6_has_19 : decode cX6_has 19 = .ok (.goto 4, 3) := by decide +kernel
theorem dX6_has_22 : decode cX6_has 22 = .ok (.iconst 0, 1) := by decide +kernel
theorem dX6_has_23 : decode cX6_has 23 = .ok (.ireturn, 1) := by decide +kernel
theorem dX6_isGone_0 : decode cX6_isGone 0 = .ok (.aload_n 0, 1) := by decide +kernel
theorem dX6_isGone_1 : decode cX6_isGone 1 = .ok (.iload_n 1, 1) := by decide +kernel
theorem dX6_isGone_2 : decode cX6_isGone 2 = .ok (.invokevirtual 34, 3) := by decide +kernel
theorem dX6_isGone_5 : decode cX6_isGone 5 = .ok (.ifCond .eq 17, 3) := by decide +kernel
theorem dX6_isGone_8 : decode cX6_isGone 8 = .ok (.aload_n 0, 1) := by decide +kernel
theorem dX6_isGone_9 : decode cX6_isGone 9 = .ok (.getfield 21, 3) := by decide +kernel
theorem dX6_isGone_12 : decode cX6_isGone 12 = .ok (.iload_n 1, 1) := by decide +kernel
theorem dX6_isGone_13 : decode cX6_isGone 13 = .ok (.iaload, 1) := by decide +kernel
theorem dX6_isGone_14 : decode cX6_isGone 14 = .ok (.iconst 1, 1) := by decide +kernel
theorem dX6_isGone_15 : decode cX6_isGone 15 = .ok (.if_icmp .ne 7, 3) := by decide +kernel
theorem dX6_isGone_18 : decode cX6_isGone 18 = .ok (.iconst 1, 1) := by decide +kernel
theorem dX6_isGone_19 : decode cX6_isGone 19 = .ok (.goto 4, 3) := by decide +kernel
theorem dX6_isGone_22 : decode cX6_isGone 22 = .ok (.iconst 0, 1) := by decide +kernel
theorem dX6_isGone_23 : decode cX6_isGone 23 = .ok (.ireturn, 1) := by decide +kernel
theorem dX6_takeOver_0 : decode cX6_takeOver 0 = .ok (.aload_n 0, 1) := by decide +kernel
theorem dX6_takeOver_1 : decode cX6_takeOver 1 = .ok (.aload_n 1, 1) := by decide +kernel
theorem dX6_takeOver_2 : decode cX6_takeOver 2 = .ok (.getfield 30, 3) := by decide +kernel
theorem dX6_takeOver_5 : decode cX6_takeOver 5 = .ok (.putfield 30, 3) := by decide +kernel
theorem dX6_takeOver_8 : decode cX6_takeOver 8 = .ok (.aload_n 0, 1) := by decide +kernel
theorem dX6_takeOver_9 : decode cX6_takeOver 9 = .ok (.aload_n 1, 1) := by decide +kernel
theorem dX6_takeOver_10 : decode cX6_takeOver 10 = .ok (.getfield 38, 3) := by decide +kernel
theorem dX6_takeOver_13 : decode cX6_takeOver 13 = .ok (.putfield 38, 3) := by decide +kernel
theorem dX6_takeOver_16 : decode cX6_takeOver 16 = .ok (.aload_n 0, 1) := by decide +kernel
theorem dX6_takeOver_17 : decode cX6_takeOver 17 = .ok (.aload_n 1, 1) := by decide +kernel
theorem dX6_takeOver_18 : decode cX6_takeOver 18 = .ok (.getfield 41, 3) := by decide +kernel
theorem dX6_takeOver_21 : decode cX6_takeOver 21 = .ok (.putfield 41, 3) := by decide +kernel
theorem dX6_takeOver_24 : decode cX6_takeOver 24 = .ok (.aload_n 1, 1) := by decide +kernel
theorem dX6_takeOver_25 : decode cX6_takeOver 25 = .ok (.getfield 9, 3) := by decide +kernel
theorem dX6_takeOver_28 : decode cX6_takeOver 28 = .ok (.iconst 0, 1) := by decide +kernel
theorem dX6_takeOver_29 : decode cX6_takeOver 29 = .ok (.aload_n 0, 1) := by decide +kernel
theorem dX6_takeOver_30 : decode cX6_takeOver 30 = .ok (.getfield 9, 3) := by decide +kernel
theorem dX6_takeOver_33 : decode cX6_takeOver 33 = .ok (.iconst 0, 1) := by decide +kernel
theorem dX6_takeOver_34 : decode cX6_takeOver 34 = .ok (.bipush 7, 2) := by decide +kernel
theorem dX6_takeOver_36 : decode cX6_takeOver 36 = .ok (.invokestatic 44, 3) := by decide +kernel
theorem dX6_takeOver_39 : decode cX6_takeOver 39 = .ok (.aload_n 1, 1) := by decide +kernel
theorem dX6_takeOver_40 : decode cX6_takeOver 40 = .ok (.getfield 15, 3) := by decide +kernel
theorem dX6_takeOver_43 : decode cX6_takeOver 43 = .ok (.iconst 0, 1) := by decide +kernel
theorem dX6_takeOver_44 : decode cX6_takeOver 44 = .ok (.aload_n 0, 1) := by decide +kernel
theorem dX6_takeOver_45 : decode cX6_takeOver 45 = .ok (.getfield 15, 3) := by decide +kernel
theorem dX6_takeOver_48 : decode cX6_takeOver 48 = .ok (.iconst 0, 1) := by decide +kernel
theorem dX6_takeOver_49 : decode cX6_takeOver 49 = .ok (.bipush 7, 2) := by decide +kernel
theorem dX6_takeOver_51 : decode cX6_takeOver 51 = .ok (.invokestatic 44, 3) := by decide +kernel
theorem dX6_takeOver_54 : decode cX6_takeOver 54 = .ok (.aload_n 1, 1) := by decide +kernel
theorem dX6_takeOver_55 : decode cX6_takeOver 55 = .ok (.getfield 18, 3) := by decide +kernel
theorem dX6_takeOver_58 : decode cX6_takeOver 58 = .ok (.iconst 0, 1) := by decide +kernel
theorem dX6_takeOver_59 : decode cX6_takeOver 59 = .ok (.aload_n 0, 1) := by decide +kernel
theorem dX6_takeOver_60 : decode cX6_takeOver 60 = .ok (.getfield 18, 3) := by decide +kernel
theorem dX6_takeOver_63 : decode cX6_takeOver 63 = .ok (.iconst 0, 1) := by decide +kernel
theorem dX6_takeOver_64 : decode cX6_takeOver 64 = .ok (.bipush 7, 2) := by decide +kernel
theorem dX6_takeOver_66 : decode cX6_takeOver 66 = .ok (.invokestatic 44, 3) := by decide +kernel
theorem dX6_takeOver_69 : decode cX6_takeOver 69 = .ok (.aload_n 1, 1) := by decide +kernel
theorem dX6_takeOver_70 : decode cX6_takeOver 70 = .ok (.getfield 21, 3) := by decide +kernel
theorem dX6_takeOver_73 : decode cX6_takeOver 73 = .ok (.iconst 0, 1) := by decide +kernel
theorem dX6_takeOver_74 : decode cX6_takeOver 74 = .ok (.aload_n 0, 1) := by decide +kernel
theorem dX6_takeOver_75 : decode cX6_takeOver 75 = .ok (.getfield 21, 3) := by decide +kernel
theorem dX6_takeOver_78 : decode cX6_takeOver 78 = .ok (.iconst 0, 1) := by decide +kernel
theorem dX6_takeOver_79 : decode cX6_takeOver 79 = .ok (.bipush 7, 2) := by decide +kernel
theorem dX6_takeOver_81 : decode cX6_takeOver 81 = .ok (.invokestatic 44, 3) := by decide +kernel
theorem dX6_takeOver_84 : decode cX6_takeOver 84 = .ok (.aload_n 1, 1) := by decide +kernel
theorem dX6_takeOver_85 : decode cX6_takeOver 85 = .ok (.getfield 24, 3) := by decide +kernel
theorem dX6_takeOver_88 : decode cX6_takeOver 88 = .ok (.iconst 0, 1) := by decide +kernel
theorem dX6_takeOver_89 : decode cX6_takeOver 89 = .ok (.aload_n 0, 1) := by decide +kernel
theorem dX6_takeOver_90 : decode cX6_takeOver 90 = .ok (.getfield 24, 3) := by decide +kernel
theorem dX6_takeOver_93 : decode cX6_takeOver 93 = .ok (.iconst 0, 1) := by decide +kernel
theorem dX6_takeOver_94 : decode cX6_takeOver 94 = .ok (.bipush 7, 2) := by decide +kernel
theorem dX6_takeOver_96 : decode cX6_takeOver 96 = .ok (.invokestatic 44, 3) := by decide +kernel
theorem dX6_takeOver_99 : decode cX6_takeOver 99 = .ok (.aload_n 1, 1) := by decide +kernel
theorem dX6_takeOver_100 : decode cX6_takeOver 100 = .ok (.getfield 27, 3) := by decide +kernel
theorem dX6_takeOver_103 : decode cX6_takeOver 103 = .ok (.iconst 0, 1) := by decide +kernel
theorem dX6_takeOver_104 : decode cX6_takeOver 104 = .ok (.aload_n 0, 1) := by decide +kernel
theorem dX6_takeOver_105 : decode cX6_takeOver 105 = .ok (.getfield 27, 3) := by decide +kernel
theorem dX6_takeOver_108 : decode cX6_takeOver 108 = .ok (.iconst 0, 1) := by decide +kernel
theorem dX6_takeOver_109 : decode cX6_takeOver 109 = .ok (.bipush 7, 2) := by decide +kernel
theorem dX6_takeOver_111 : decode cX6_takeOver 111 = .ok (.invokestatic 44, 3) := by decide +kernel
theorem dX6_takeOver_114 : decode cX6_takeOver 114 = .ok (.return_, 1) := by decide +kernel
theorem dX6_isLike_0 : decode cX6_isLike 0 = .ok (.aload_n 0, 1) := by decide +kernel
theorem dX6_isLike_1 : decode cX6_isLike 1 = .ok (.getfield 30, 3) := by decide +kernel
theorem dX6_isLike_4 : decode cX6_isLike 4 = .ok (.aload_n 1, 1) := by decide +kernel
theorem dX6_isLike_5 : decode cX6_isLike 5 = .ok (.getfield 30, 3) := by decide +kernel
theorem dX6_isLike_8 : decode cX6_isLike 8 = .ok (.if_icmp .ne 29, 3) := by decide +kernel
theorem dX6_isLike_11 : decode cX6_isLike 11 = .ok (.aload_n 0, 1) := by decide +kernel
theorem dX6_isLike_12 : decode cX6_isLike 12 = .ok (.getfield 38, 3) := by decide +kernel
theorem dX6_isLike_15 : decode cX6_isLike 15 = .ok (.aload_n 1, 1) := by decide +kernel
theorem dX6_isLike_16 : decode cX6_isLike 16 = .ok (.getfield 38, 3) := by decide +kernel
theorem dX6_isLike_19 : decode cX6_isLike 19 = .ok (.if_icmp .ne 18, 3) := by decide +kernel
theorem dX6_isLike_22 : decode cX6_isLike 22 = .ok (.aload_n 0, 1) := by decide +kernel
theorem dX6_isLike_23 : decode cX6_isLike 23 = .ok (.getfield 41, 3) := by decide +kernel
theorem dX6_isLike_26 : decode cX6_isLike 26 = .ok (.aload_n 1, 1) := by decide +kernel
theorem dX6_isLike_27 : decode cX6_isLike 27 = .ok (.getfield 41, 3) := by decide +kernel
theorem dX6_isLike_30 : decode cX6_isLike 30 = .ok (.if_icmp .ne 7, 3) := by decide +kernel
theorem dX6_isLike_33 : decode cX6_isLike 33 = .ok (.iconst 1, 1) := by decide +kernel
theorem dX6_isLike_34 : decode cX6_isLike 34 = .ok (.goto 4, 3) := by decide +kernel
theorem dX6_isLike_37 : decode cX6_isLike 37 = .ok (.iconst 0, 1) := by decide +kernel
theorem dX6_isLike_38 : decode cX6_isLike 38 = .ok (.istore_n 2, 1) := by decide +kernel
theorem dX6_isLike_39 : decode cX6_isLike 39 = .ok (.iconst 0, 1) := by decide +kernel
theorem dX6_isLike_40 : decode cX6_isLike 40 = .ok (.istore_n 3, 1) := by decide +kernel
theorem dX6_isLike_41 : decode cX6_isLike 41 = .ok (.iload_n 3, 1) := by decide +kernel
theorem dX6_isLike_42 : decode cX6_isLike 42 = .ok (.bipush 7, 2) := by decide +kernel
theorem dX6_isLike_44 : decode cX6_isLike 44 = .ok (.if_icmp .ge 109, 3) := by decide +kernel
theorem dX6_isLike_47 : decode cX6_isLike 47 = .ok (.iload_n 2, 1) := by decide +kernel
theorem dX6_isLike_48 : decode cX6_isLike 48 = .ok (.ifCond .eq 105, 3) := by decide +kernel
theorem dX6_isLike_51 : decode cX6_isLike 51 = .ok (.aload_n 0, 1) := by decide +kernel
theorem dX6_isLike_52 : decode cX6_isLike 52 = .ok (.getfield 9, 3) := by decide +kernel
theorem dX6_isLike_55 : decode cX6_isLike 55 = .ok (.iload_n 3, 1) := by decide +kernel
theorem dX6_isLike_56 : decode cX6_isLike 56 = .ok (.iaload, 1) := by decide +kernel
theorem dX6_isLike_57 : decode cX6_isLike 57 = .ok (.aload_n 1, 1) := by decide +kernel
theorem dX6_isLike_58 : decode cX6_isLike 58 = .ok (.getfield 9, 3) := by decide +kernel
theorem dX6_isLike_61 : decode cX6_isLike 61 = .ok (.iload_n 3, 1) := by decide +kernel
theorem dX6_isLike_62 : decode cX6_isLike 62 = .ok (.iaload, 1) := by decide +kernel
theorem dX6_isLike_63 : decode cX6_isLike 63 = .ok (.if_icmp .ne 82, 3) := by decide +kernel
theorem dX6_isLike_66 : decode cX6_isLike 66 = .ok (.aload_n 0, 1) := by decide +kernel
theorem dX6_isLike_67 : decode cX6_isLike 67 = .ok (.getfield 15, 3) := by decide +kernel
theorem dX6_isLike_70 : decode cX6_isLike 70 = .ok (.iload_n 3, 1) := by decide +kernel
theorem dX6_isLike_71 : decode cX6_isLike 71 = .ok (.iaload, 1) := by decide +kernel
theorem dX6_isLike_72 : decode cX6_isLike 72 = .ok (.aload_n 1, 1) := by decide +kernel
theorem dX6_isLike_73 : decode cX6_isLike 73 = .ok (.getfield 15, 3) := by decide +kernel
theorem dX6_isLike_76 : decode cX6_isLike 76 = .ok (.iload_n 3, 1) := by decide +kernel
theorem dX6_isLike_77 : decode cX6_isLike 77 = .ok (.iaload, 1) := by decide +kernel
theorem dX6_isLike_78 : decode cX6_isLike 78 = .ok (.if_icmp .ne 67, 3) := by decide +kernel
theorem dX6_isLike_81 : decode cX6_isLike 81 = .ok (.aload_n 0, 1) := by decide +kernel
theorem dX6_isLike_82 : decode cX6_isLike 82 = .ok (.getfield 18, 3) := by decide +kernel
theorem dX6_isLike_85 : decode cX6_isLike 85 = .ok (.iload_n 3, 1) := by decide +kernel
theorem dX6_isLike_86 : decode cX6_isLike 86 = .ok (.iaload, 1) := by decide +kernel
theorem dX6_isLike_87 : decode cX6_isLike 87 = .ok (.aload_n 1, 1) := by decide +kernel
theorem dX6_isLike_88 : decode cX6_isLike 88 = .ok (.getfield 18, 3) := by decide +kernel
theorem dX6_isLike_91 : decode cX6_isLike 91 = .ok (.iload_n 3, 1) := by decide +kernel
theorem dX6_isLike_92 : decode cX6_isLike 92 = .ok (.iaload, 1) := by decide +kernel
theorem dX6_isLike_93 : decode cX6_isLike 93 = .ok (.if_icmp .ne 52, 3) := by decide +kernel
theorem dX6_isLike_96 : decode cX6_isLike 96 = .ok (.aload_n 0, 1) := by decide +kernel
theorem dX6_isLike_97 : decode cX6_isLike 97 = .ok (.getfield 21, 3) := by decide +kernel
theorem dX6_isLike_100 : decode cX6_isLike 100 = .ok (.iload_n 3, 1) := by decide +kernel
theorem dX6_isLike_101 : decode cX6_isLike 101 = .ok (.iaload, 1) := by decide +kernel
theorem dX6_isLike_102 : decode cX6_isLike 102 = .ok (.aload_n 1, 1) := by decide +kernel
theorem dX6_isLike_103 : decode cX6_isLike 103 = .ok (.getfield 21, 3) := by decide +kernel
theorem dX6_isLike_106 : decode cX6_isLike 106 = .ok (.iload_n 3, 1) := by decide +kernel
theorem dX6_isLike_107 : decode cX6_isLike 107 = .ok (.iaload, 1) := by decide +kernel
theorem dX6_isLike_108 : decode cX6_isLike 108 = .ok (.if_icmp .ne 37, 3) := by decide +kernel
theorem dX6_isLike_111 : decode cX6_isLike 111 = .ok (.aload_n 0, 1) := by decide +kernel
theorem dX6_isLike_112 : decode cX6_isLike 112 = .ok (.getfield 24, 3) := by decide +kernel
theorem dX6_isLike_115 : decode cX6_isLike 115 = .ok (.iload_n 3, 1) := by decide +kernel
theorem dX6_isLike_116 : decode cX6_isLike 116 = .ok (.iaload, 1) := by decide +kernel
theorem dX6_isLike_117 : decode cX6_isLike 117 = .ok (.aload_n 1, 1) := by decide +kernel
theorem dX6_isLike_118 : decode cX6_isLike 118 = .ok (.getfield 24, 3) := by decide +kernel
theorem dX6_isLike_121 : decode cX6_isLike 121 = .ok (.iload_n 3, 1) := by decide +kernel
theorem dX6_isLike_122 : decode cX6_isLike 122 = .ok (.iaload, 1) := by decide +kernel
theorem dX6_isLike_123 : decode cX6_isLike 123 = .ok (.if_icmp .ne 22, 3) := by decide +kernel
theorem dX6_isLike_126 : decode cX6_isLike 126 = .ok (.aload_n 0, 1) := by decide +kernel
theorem dX6_isLike_127 : decode cX6_isLike 127 = .ok (.getfield 27, 3) := by decide +kernel
theorem dX6_isLike_130 : decode cX6_isLike 130 = .ok (.iload_n 3, 1) := by decide +kernel
theorem dX6_isLike_131 : decode cX6_isLike 131 = .ok (.iaload, 1) := by decide +kernel
theorem dX6_isLike_132 : decode cX6_isLike 132 = .ok (.aload_n 1, 1) := by decide +kernel
theorem dX6_isLike_133 : decode cX6_isLike 133 = .ok (.getfield 27, 3) := by decide +kernel
theorem dX6_isLike_136 : decode cX6_isLike 136 = .ok (.iload_n 3, 1) := by decide +kernel
theorem dX6_isLike_137 : decode cX6_isLike 137 = .ok (.iaload, 1) := by decide +kernel
theorem dX6_isLike_138 : decode cX6_isLike 138 = .ok (.if_icmp .ne 7, 3) := by decide +kernel
theorem dX6_isLike_141 : decode cX6_isLike 141 = .ok (.iconst 1, 1) := by decide +kernel
theorem dX6_isLike_142 : decode cX6_isLike 142 = .ok (.goto 4, 3) := by decide +kernel
theorem dX6_isLike_145 : decode cX6_isLike 145 = .ok (.iconst 0, 1) := by decide +kernel
theorem dX6_isLike_146 : decode cX6_isLike 146 = .ok (.istore_n 2, 1) := by decide +kernel
theorem dX6_isLike_147 : decode cX6_isLike 147 = .ok (.iinc 3 1, 3) := by decide +kernel
theorem dX6_isLike_150 : decode cX6_isLike 150 = .ok (.goto (-109), 3) := by decide +kernel
theorem dX6_isLike_153 : decode cX6_isLike 153 = .ok (.iload_n 2, 1) := by decide +kernel
theorem dX6_isLike_154 : decode cX6_isLike 154 = .ok (.ireturn, 1) := by decide +kernel
theorem dX6_sum_0 : decode cX6_sum 0 = .ok (.iconst 0, 1) := by decide +kernel
theorem dX6_sum_1 : decode cX6_sum 1 = .ok (.istore_n 2, 1) := by decide +kernel
theorem dX6_sum_2 : decode cX6_sum 2 = .ok (.iconst 0, 1) := by decide +kernel
theorem dX6_sum_3 : decode cX6_sum 3 = .ok (.istore_n 3, 1) := by decide +kernel
theorem dX6_sum_4 : decode cX6_sum 4 = .ok (.iload_n 3, 1) := by decide +kernel
theorem dX6_sum_5 : decode cX6_sum 5 = .ok (.aload_n 0, 1) := by decide +kernel
theorem dX6_sum_6 : decode cX6_sum 6 = .ok (.getfield 30, 3) := by decide +kernel
theorem dX6_sum_9 : decode cX6_sum 9 = .ok (.if_icmp .ge 21, 3) := by decide +kernel
theorem dX6_sum_12 : decode cX6_sum 12 = .ok (.iload_n 3, 1) := by decide +kernel
theorem dX6_sum_13 : decode cX6_sum 13 = .ok (.aload_n 1, 1) := by decide +kernel
theorem dX6_sum_14 : decode cX6_sum 14 = .ok (.arraylength, 1) := by decide +kernel
theorem dX6_sum_15 : decode cX6_sum 15 = .ok (.if_icmp .ge 15, 3) := by decide +kernel
theorem dX6_sum_18 : decode cX6_sum 18 = .ok (.iload_n 2, 1) := by decide +kernel
theorem dX6_sum_19 : decode cX6_sum 19 = .ok (.aload_n 1, 1) := by decide +kernel
theorem dX6_sum_20 : decode cX6_sum 20 = .ok (.iload_n 3, 1) := by decide +kernel
theorem dX6_sum_21 : decode cX6_sum 21 = .ok (.iaload, 1) := by decide +kernel
theorem dX6_sum_22 : decode cX6_sum 22 = .ok (.iadd, 1) := by decide +kernel
theorem dX6_sum_23 : decode cX6_sum 23 = .ok (.istore_n 2, 1) := by decide +kernel
theorem dX6_sum_24 : decode cX6_sum 24 = .ok (.iinc 3 1, 3) := by decide +kernel
theorem dX6_sum_27 : decode cX6_sum 27 = .ok (.goto (-23), 3) := by decide +kernel
theorem dX6_sum_30 : decode cX6_sum 30 = .ok (.iload_n 2, 1) := by decide +kernel
theorem dX6_sum_31 : decode cX6_sum 31 = .ok (.ireturn, 1) := by decide +kernel
theorem dX6_whyNoSwap_0 : decode cX6_whyNoSwap 0 = .ok (.aload_n 0, 1) := by decide +kernel
theorem dX6_whyNoSwap_1 : decode cX6_whyNoSwap 1 = .ok (.iload_n 1, 1) := by decide +kernel
theorem dX6_whyNoSwap_2 : decode cX6_whyNoSwap 2 = .ok (.invokevirtual 34, 3) := by decide +kernel
theorem dX6_whyNoSwap_5 : decode cX6_whyNoSwap 5 = .ok (.ifCond .eq 20, 3) := by decide +kernel
theorem dX6_whyNoSwap_8 : decode cX6_whyNoSwap 8 = .ok (.aload_n 0, 1) := by decide +kernel
theorem dX6_whyNoSwap_9 : decode cX6_whyNoSwap 9 = .ok (.iload_n 2, 1) := by decide +kernel
theorem dX6_whyNoSwap_10 : decode cX6_whyNoSwap 10 = .ok (.invokevirtual 34, 3) := by decide +kernel
theorem dX6_whyNoSwap_13 : decode cX6_whyNoSwap 13 = .ok (.ifCond .eq 12, 3) := by decide +kernel
theorem dX6_whyNoSwap_16 : decode cX6_whyNoSwap 16 = .ok (.iload_n 1, 1) := by decide +kernel
theorem dX6_whyNoSwap_17 : decode cX6_whyNoSwap 17 = .ok (.iload_n 2, 1) := by decide +kernel
theorem dX6_whyNoSwap_18 : decode cX6_whyNoSwap 18 = .ok (.if_icmp .eq 7, 3) := by decide +kernel
theorem dX6_whyNoSwap_21 : decode cX6_whyNoSwap 21 = .ok (.iconst 0, 1) := by decide +kernel
theorem dX6_whyNoSwap_22 : decode cX6_whyNoSwap 22 = .ok (.goto 4, 3) := by decide +kernel
theorem dX6_whyNoSwap_25 : decode cX6_whyNoSwap 25 = .ok (.iconst 1, 1) := by decide +kernel
theorem dX6_whyNoSwap_26 : decode cX6_whyNoSwap 26 = .ok (.ireturn, 1) := by decide +kernel
theorem dX6_whyNoGift_0 : decode cX6_whyNoGift 0 = .ok (.aload_n 0, 1) := by decide +kernel
theorem dX6_whyNoGift_1 : decode cX6_whyNoGift 1 = .ok (.iload_n 1, 1) := by decide +kernel
theorem dX6_whyNoGift_2 : decode cX6_whyNoGift 2 = .ok (.invokevirtual 34, 3) := by decide +kernel
theorem dX6_whyNoGift_5 : decode cX6_whyNoGift 5 = .ok (.ifCond .eq 16, 3) := by decide +kernel
theorem dX6_whyNoGift_8 : decode cX6_whyNoGift 8 = .ok (.aload_n 0, 1) := by decide +kernel
theorem dX6_whyNoGift_9 : decode cX6_whyNoGift 9 = .ok (.iload_n 2, 1) := by decide +kernel
theorem dX6_whyNoGift_10 : decode cX6_whyNoGift 10 = .ok (.invokevirtual 34, 3) := by decide +kernel
theorem dX6_whyNoGift_13 : decode cX6_whyNoGift 13 = .ok (.ifCond .eq 8, 3) := by decide +kernel
theorem dX6_whyNoGift_16 : decode cX6_whyNoGift 16 = .ok (.iload_n 1, 1) := by decide +kernel
theorem dX6_whyNoGift_17 : decode cX6_whyNoGift 17 = .ok (.iload_n 2, 1) := by decide +kernel
theorem dX6_whyNoGift_18 : decode cX6_whyNoGift 18 = .ok (.if_icmp .ne 5, 3) := by decide +kernel
theorem dX6_whyNoGift_21 : decode cX6_whyNoGift 21 = .ok (.iconst 1, 1) := by decide +kernel
theorem dX6_whyNoGift_22 : decode cX6_whyNoGift 22 = .ok (.ireturn, 1) := by decide +kernel
theorem dX6_whyNoGift_23 : decode cX6_whyNoGift 23 = .ok (.aload_n 0, 1) := by decide +kernel
theorem dX6_whyNoGift_24 : decode cX6_whyNoGift 24 = .ok (.iload_n 1, 1) := by decide +kernel
theorem dX6_whyNoGift_25 : decode cX6_whyNoGift 25 = .ok (.invokevirtual 50, 3) := by decide +kernel
theorem dX6_whyNoGift_28 : decode cX6_whyNoGift 28 = .ok (.ifCond .ne 11, 3) := by decide +kernel
theorem dX6_whyNoGift_31 : decode cX6_whyNoGift 31 = .ok (.aload_n 0, 1) := by decide +kernel
theorem dX6_whyNoGift_32 : decode cX6_whyNoGift 32 = .ok (.iload_n 2, 1) := by decide +kernel
theorem dX6_whyNoGift_33 : decode cX6_whyNoGift 33 = .ok (.invokevirtual 50, 3) := by decide +kernel
theorem dX6_whyNoGift_36 : decode cX6_whyNoGift 36 = .ok (.ifCond .eq 5, 3) := by decide +kernel
theorem dX6_whyNoGift_39 : decode cX6_whyNoGift 39 = .ok (.iconst 2, 1) := by decide +kernel
theorem dX6_whyNoGift_40 : decode cX6_whyNoGift 40 = .ok (.ireturn, 1) := by decide +kernel
theorem dX6_whyNoGift_41 : decode cX6_whyNoGift 41 = .ok (.aload_n 0, 1) := by decide +kernel
theorem dX6_whyNoGift_42 : decode cX6_whyNoGift 42 = .ok (.getfield 18, 3) := by decide +kernel
theorem dX6_whyNoGift_45 : decode cX6_whyNoGift 45 = .ok (.iload_n 1, 1) := by decide +kernel
theorem dX6_whyNoGift_46 : decode cX6_whyNoGift 46 = .ok (.iaload, 1) := by decide +kernel
theorem dX6_whyNoGift_47 : decode cX6_whyNoGift 47 = .ok (.iload_n 3, 1) := by decide +kernel
theorem dX6_whyNoGift_48 : decode cX6_whyNoGift 48 = .ok (.if_icmp .ge 7, 3) := by decide +kernel
theorem dX6_whyNoGift_51 : decode cX6_whyNoGift 51 = .ok (.iconst 3, 1) := by decide +kernel
theorem dX6_whyNoGift_52 : decode cX6_whyNoGift 52 = .ok (.goto 4, 3) := by decide +kernel
theorem dX6_whyNoGift_55 : decode cX6_whyNoGift 55 = .ok (.iconst 0, 1) := by decide +kernel
theorem dX6_whyNoGift_56 : decode cX6_whyNoGift 56 = .ok (.ireturn, 1) := by decide +kernel
theorem dX6_whyNoPayOff_0 : decode cX6_whyNoPayOff 0 = .ok (.aload_n 0, 1) := by decide +kernel
theorem dX6_whyNoPayOff_1 : decode cX6_whyNoPayOff 1 = .ok (.iload_n 1, 1) := by decide +kernel
theorem dX6_whyNoPayOff_2 : decode cX6_whyNoPayOff 2 = .ok (.invokevirtual 34, 3) := by decide +kernel
theorem dX6_whyNoPayOff_5 : decode cX6_whyNoPayOff 5 = .ok (.ifCond .ne 5, 3) := by decide +kernel
theorem dX6_whyNoPayOff_8 : decode cX6_whyNoPayOff 8 = .ok (.iconst 1, 1) := by decide +kernel
theorem dX6_whyNoPayOff_9 : decode cX6_whyNoPayOff 9 = .ok (.ireturn, 1) := by decide +kernel
theorem dX6_whyNoPayOff_10 : decode cX6_whyNoPayOff 10 = .ok (.aload_n 0, 1) := by decide +kernel
theorem dX6_whyNoPayOff_11 : decode cX6_whyNoPayOff 11 = .ok (.iload_n 1, 1) := by decide +kernel
theorem dX6_whyNoPayOff_12 : decode cX6_whyNoPayOff 12 = .ok (.invokevirtual 50, 3) := by decide +kernel
theorem dX6_whyNoPayOff_15 : decode cX6_whyNoPayOff 15 = .ok (.ifCond .eq 5, 3) := by decide +kernel
theorem dX6_whyNoPayOff_18 : decode cX6_whyNoPayOff 18 = .ok (.iconst 2, 1) := by decide +kernel
theorem dX6_whyNoPayOff_19 : decode cX6_whyNoPayOff 19 = .ok (.ireturn, 1) := by decide +kernel
theorem dX6_whyNoPayOff_20 : decode cX6_whyNoPayOff 20 = .ok (.aload_n 0, 1) := by decide +kernel
theorem dX6_whyNoPayOff_21 : decode cX6_whyNoPayOff 21 = .ok (.getfield 18, 3) := by decide +kernel
theorem dX6_whyNoPayOff_24 : decode cX6_whyNoPayOff 24 = .ok (.iload_n 1, 1) := by decide +kernel
theorem dX6_whyNoPayOff_25 : decode cX6_whyNoPayOff 25 = .ok (.iaload, 1) := by decide +kernel
theorem dX6_whyNoPayOff_26 : decode cX6_whyNoPayOff 26 = .ok (.ifCond .eq 12, 3) := by decide +kernel
theorem dX6_whyNoPayOff_29 : decode cX6_whyNoPayOff 29 = .ok (.aload_n 0, 1) := by decide +kernel
theorem dX6_whyNoPayOff_30 : decode cX6_whyNoPayOff 30 = .ok (.getfield 24, 3) := by decide +kernel
theorem dX6_whyNoPayOff_33 : decode cX6_whyNoPayOff 33 = .ok (.iload_n 1, 1) := by decide +kernel
theorem dX6_whyNoPayOff_34 : decode cX6_whyNoPayOff 34 = .ok (.iaload, 1) := by decide +kernel
theorem dX6_whyNoPayOff_35 : decode cX6_whyNoPayOff 35 = .ok (.ifCond .ne 7, 3) := by decide +kernel
theorem dX6_whyNoPayOff_38 : decode cX6_whyNoPayOff 38 = .ok (.iconst 3, 1) := by decide +kernel
theorem dX6_whyNoPayOff_39 : decode cX6_whyNoPayOff 39 = .ok (.goto 4, 3) := by decide +kernel
theorem dX6_whyNoPayOff_42 : decode cX6_whyNoPayOff 42 = .ok (.iconst 0, 1) := by decide +kernel
theorem dX6_whyNoPayOff_43 : decode cX6_whyNoPayOff 43 = .ok (.ireturn, 1) := by decide +kernel
theorem dX6_exchange_0 : decode cX6_exchange 0 = .ok (.aload_n 0, 1) := by decide +kernel
theorem dX6_exchange_1 : decode cX6_exchange 1 = .ok (.iload_n 1, 1) := by decide +kernel
theorem dX6_exchange_2 : decode cX6_exchange 2 = .ok (.invokevirtual 34, 3) := by decide +kernel
theorem dX6_exchange_5 : decode cX6_exchange 5 = .ok (.ifCond .eq 51, 3) := by decide +kernel
theorem dX6_exchange_8 : decode cX6_exchange 8 = .ok (.aload_n 0, 1) := by decide +kernel
theorem dX6_exchange_9 : decode cX6_exchange 9 = .ok (.iload_n 2, 1) := by decide +kernel
theorem dX6_exchange_10 : decode cX6_exchange 10 = .ok (.invokevirtual 34, 3) := by decide +kernel
theorem dX6_exchange_13 : decode cX6_exchange 13 = .ok (.ifCond .eq 43, 3) := by decide +kernel
theorem dX6_exchange_16 : decode cX6_exchange 16 = .ok (.aload_n 0, 1) := by decide +kernel
theorem dX6_exchange_17 : decode cX6_exchange 17 = .ok (.aload_n 0, 1) := by decide +kernel
theorem dX6_exchange_18 : decode cX6_exchange 18 = .ok (.getfield 9, 3) := by decide +kernel
theorem dX6_exchange_21 : decode cX6_exchange 21 = .ok (.iload_n 1, 1) := by decide +kernel
theorem dX6_exchange_22 : decode cX6_exchange 22 = .ok (.iload_n 2, 1) := by decide +kernel
theorem dX6_exchange_23 : decode cX6_exchange 23 = .ok (.invokevirtual 53, 3) := by decide +kernel
theorem dX6_exchange_26 : decode cX6_exchange 26 = .ok (.aload_n 0, 1) := by decide +kernel
theorem dX6_exchange_27 : decode cX6_exchange 27 = .ok (.aload_n 0, 1) := by decide +kernel
theorem dX6_exchange_28 : decode cX6_exchange 28 = .ok (.getfield 15, 3) := by decide +kernel
theorem dX6_exchange_31 : decode cX6_exchange 31 = .ok (.iload_n 1, 1) := by decide +kernel
theorem dX6_exchange_32 : decode cX6_exchange 32 = .ok (.iload_n 2, 1) := by decide +kernel
theorem dX6_exchange_33 : decode cX6_exchange 33 = .ok (.invokevirtual 53, 3) := by decide +kernel
theorem dX6_exchange_36 : decode cX6_exchange 36 = .ok (.aload_n 0, 1) := by decide +kernel
theorem dX6_exchange_37 : decode cX6_exchange 37 = .ok (.aload_n 0, 1) := by decide +kernel
theorem dX6_exchange_38 : decode cX6_exchange 38 = .ok (.getfield 18, 3) := by decide +kernel
theorem dX6_exchange_41 : decode cX6_exchange 41 = .ok (.iload_n 1, 1) := by decide +kernel
theorem dX6_exchange_42 : decode cX6_exchange 42 = .ok (.iload_n 2, 1) := by decide +kernel
theorem dX6_exchange_43 : decode cX6_exchange 43 = .ok (.invokevirtual 53, 3) := by decide +kernel
theorem dX6_exchange_46 : decode cX6_exchange 46 = .ok (.aload_n 0, 1) := by decide +kernel
theorem dX6_exchange_47 : decode cX6_exchange 47 = .ok (.aload_n 0, 1) := by decide +kernel
theorem dX6_exchange_48 : decode cX6_exchange 48 = .ok (.getfield 21, 3) := by decide +kernel
theorem dX6_exchange_51 : decode cX6_exchange 51 = .ok (.iload_n 1, 1) := by decide +kernel
theorem dX6_exchange_52 : decode cX6_exchange 52 = .ok (.iload_n 2, 1) := by decide +kernel
theorem dX6_exchange_53 : decode cX6_exchange 53 = .ok (.invokevirtual 53, 3) := by decide +kernel
theorem dX6_exchange_56 : decode cX6_exchange 56 = .ok (.return_, 1) := by decide +kernel
theorem dX6_exchangeIn_0 : decode cX6_exchangeIn 0 = .ok (.aload_n 1, 1) := by decide +kernel
theorem dX6_exchangeIn_1 : decode cX6_exchangeIn 1 = .ok (.iload_n 2, 1) := by decide +kernel
theorem dX6_exchangeIn_2 : decode cX6_exchangeIn 2 = .ok (.iaload, 1) := by decide +kernel
theorem dX6_exchangeIn_3 : decode cX6_exchangeIn 3 = .ok (.istore 4, 2) := by decide +kernel
theorem dX6_exchangeIn_5 : decode cX6_exchangeIn 5 = .ok (.aload_n 1, 1) := by decide +kernel
theorem dX6_exchangeIn_6 : decode cX6_exchangeIn 6 = .ok (.iload_n 2, 1) := by decide +kernel
theorem dX6_exchangeIn_7 : decode cX6_exchangeIn 7 = .ok (.aload_n 1, 1) := by decide +kernel
theorem dX6_exchangeIn_8 : decode cX6_exchangeIn 8 = .ok (.iload_n 3, 1) := by decide +kernel
theorem dX6_exchangeIn_9 : decode cX6_exchangeIn 9 = .ok (.iaload, 1) := by decide +kernel
theorem dX6_exchangeIn_10 : decode cX6_exchangeIn 10 = .ok (.iastore, 1) := by decide +kernel
theorem dX6_exchangeIn_11 : decode cX6_exchangeIn 11 = .ok (.aload_n 1, 1) := by decide +kernel
theorem dX6_exchangeIn_12 : decode cX6_exchangeIn 12 = .ok (.iload_n 3, 1) := by decide +kernel
theorem dX6_exchangeIn_13 : decode cX6_exchangeIn 13 = .ok (.iload 4, 2) := by decide +kernel
theorem dX6_exchangeIn_15 : decode cX6_exchangeIn 15 = .ok (.iastore, 1) := by decide +kernel
theorem dX6_exchangeIn_16 : decode cX6_exchangeIn 16 = .ok (.return_, 1) := by decide +kernel
theorem dX6_give_0 : decode cX6_give 0 = .ok (.aload_n 0, 1) := by decide +kernel
theorem dX6_give_1 : decode cX6_give 1 = .ok (.iload_n 1, 1) := by decide +kernel
theorem dX6_give_2 : decode cX6_give 2 = .ok (.invokevirtual 34, 3) := by decide +kernel
theorem dX6_give_5 : decode cX6_give 5 = .ok (.ifCond .eq 40, 3) := by decide +kernel
theorem dX6_give_8 : decode cX6_give 8 = .ok (.aload_n 0, 1) := by decide +kernel
theorem dX6_give_9 : decode cX6_give 9 = .ok (.iload_n 2, 1) := by decide +kernel
theorem dX6_give_10 : decode cX6_give 10 = .ok (.invokevirtual 34, 3) := by decide +kernel
theorem dX6_give_13 : decode cX6_give 13 = .ok (.ifCond .eq 32, 3) := by decide +kernel
theorem dX6_give_16 : decode cX6_give 16 = .ok (.aload_n 0, 1) := by decide +kernel
theorem dX6_give_17 : decode cX6_give 17 = .ok (.getfield 18, 3) := by decide +kernel
theorem dX6_give_20 : decode cX6_give 20 = .ok (.iload_n 1, 1) := by decide +kernel
theorem dX6_give_21 : decode cX6_give 21 = .ok (.dup2, 1) := by decide +kernel
theorem dX6_give_22 : decode cX6_give 22 = .ok (.iaload, 1) := by decide +kernel
theorem dX6_give_23 : decode cX6_give 23 = .ok (.iload_n 3, 1) := by decide +kernel
theorem dX6_give_24 : decode cX6_give 24 = .ok (.isub, 1) := by decide +kernel
theorem dX6_give_25 : decode cX6_give 25 = .ok (.iastore, 1) := by decide +kernel
theorem dX6_give_26 : decode cX6_give 26 = .ok (.aload_n 0, 1) := by decide +kernel
theorem dX6_give_27 : decode cX6_give 27 = .ok (.getfield 18, 3) := by decide +kernel
theorem dX6_give_30 : decode cX6_give 30 = .ok (.iload_n 2, 1) := by decide +kernel
theorem dX6_give_31 : decode cX6_give 31 = .ok (.aload_n 0, 1) := by decide +kernel
theorem dX6_give_32 : decode cX6_give 32 = .ok (.getfield 18, 3) := by decide +kernel
theorem dX6_give_35 : decode cX6_give 35 = .ok (.iload_n 2, 1) := by decide +kernel
theorem dX6_give_36 : decode cX6_give 36 = .ok (.iaload, 1) := by decide +kernel
theorem dX6_give_37 : decode cX6_give 37 = .ok (.iload_n 3, 1) := by decide +kernel
theorem dX6_give_38 : decode cX6_give 38 = .ok (.iadd, 1) := by decide +kernel
theorem dX6_give_39 : decode cX6_give 39 = .ok (.ldc 57, 2) := by decide +kernel
theorem dX6_give_41 : decode cX6_give 41 = .ok (.invokestatic 58, 3) := by decide +kernel
theorem dX6_give_44 : decode cX6_give 44 = .ok (.iastore, 1) := by decide +kernel
theorem dX6_give_45 : decode cX6_give 45 = .ok (.return_, 1) := by decide +kernel
theorem dX6_payBack_0 : decode cX6_payBack 0 = .ok (.aload_n 0, 1) := by decide +kernel
theorem dX6_payBack_1 : decode cX6_payBack 1 = .ok (.iload_n 1, 1) := by decide +kernel
theorem dX6_payBack_2 : decode cX6_payBack 2 = .ok (.invokevirtual 34, 3) := by decide +kernel
theorem dX6_payBack_5 : decode cX6_payBack 5 = .ok (.ifCond .ne 5, 3) := by decide +kernel
theorem dX6_payBack_8 : decode cX6_payBack 8 = .ok (.iconst 0, 1) := by decide +kernel
theorem dX6_payBack_9 : decode cX6_payBack 9 = .ok (.ireturn, 1) := by decide +kernel
theorem dX6_payBack_10 : decode cX6_payBack 10 = .ok (.iload_n 2, 1) := by decide +kernel
theorem dX6_payBack_11 : decode cX6_payBack 11 = .ok (.aload_n 0, 1) := by decide +kernel
theorem dX6_payBack_12 : decode cX6_payBack 12 = .ok (.getfield 18, 3) := by decide +kernel
theorem dX6_payBack_15 : decode cX6_payBack 15 = .ok (.iload_n 1, 1) := by decide +kernel
theorem dX6_payBack_16 : decode cX6_payBack 16 = .ok (.iaload, 1) := by decide +kernel
theorem dX6_payBack_17 : decode cX6_payBack 17 = .ok (.aload_n 0, 1) := by decide +kernel
theorem dX6_payBack_18 : decode cX6_payBack 18 = .ok (.getfield 24, 3) := by decide +kernel
theorem dX6_payBack_21 : decode cX6_payBack 21 = .ok (.iload_n 1, 1) := by decide +kernel
theorem dX6_payBack_22 : decode cX6_payBack 22 = .ok (.iaload, 1) := by decide +kernel
theorem dX6_payBack_23 : decode cX6_payBack 23 = .ok (.invokestatic 58, 3) := by decide +kernel
theorem dX6_payBack_26 : decode cX6_payBack 26 = .ok (.invokestatic 58, 3) := by decide +kernel
theorem dX6_payBack_29 : decode cX6_payBack 29 = .ok (.istore_n 3, 1) := by decide +kernel
theorem dX6_payBack_30 : decode cX6_payBack 30 = .ok (.aload_n 0, 1) := by decide +kernel
theorem dX6_payBack_31 : decode cX6_payBack 31 = .ok (.getfield 18, 3) := by decide +kernel
theorem dX6_payBack_34 : decode cX6_payBack 34 = .ok (.iload_n 1, 1) := by decide +kernel
theorem dX6_payBack_35 : decode cX6_payBack 35 = .ok (.dup2, 1) := by decide +kernel
theorem dX6_payBack_36 : decode cX6_payBack 36 = .ok (.iaload, 1) := by decide +kernel
theorem dX6_payBack_37 : decode cX6_payBack 37 = .ok (.iload_n 3, 1) := by decide +kernel
theorem dX6_payBack_38 : decode cX6_payBack 38 = .ok (.isub, 1) := by decide +kernel
theorem dX6_payBack_39 : decode cX6_payBack 39 = .ok (.iastore, 1) := by decide +kernel
theorem dX6_payBack_40 : decode cX6_payBack 40 = .ok (.aload_n 0, 1) := by decide +kernel
theorem dX6_payBack_41 : decode cX6_payBack 41 = .ok (.getfield 24, 3) := by decide +kernel
theorem dX6_payBack_44 : decode cX6_payBack 44 = .ok (.iload_n 1, 1) := by decide +kernel
theorem dX6_payBack_45 : decode cX6_payBack 45 = .ok (.dup2, 1) := by decide +kernel
theorem dX6_payBack_46 : decode cX6_payBack 46 = .ok (.iaload, 1) := by decide +kernel
theorem dX6_payBack_47 : decode cX6_payBack 47 = .ok (.iload_n 3, 1) := by decide +kernel
theorem dX6_payBack_48 : decode cX6_payBack 48 = .ok (.isub, 1) := by decide +kernel
theorem dX6_payBack_49 : decode cX6_payBack 49 = .ok (.iastore, 1) := by decide +kernel
theorem dX6_payBack_50 : decode cX6_payBack 50 = .ok (.iload_n 3, 1) := by decide +kernel
theorem dX6_payBack_51 : decode cX6_payBack 51 = .ok (.ireturn, 1) := by decide +kernel
theorem dX6_ruin_0 : decode cX6_ruin 0 = .ok (.aload_n 0, 1) := by decide +kernel
theorem dX6_ruin_1 : decode cX6_ruin 1 = .ok (.iload_n 1, 1) := by decide +kernel
theorem dX6_ruin_2 : decode cX6_ruin 2 = .ok (.invokevirtual 34, 3) := by decide +kernel
theorem dX6_ruin_5 : decode cX6_ruin 5 = .ok (.ifCond .eq 17, 3) := by decide +kernel
theorem dX6_ruin_8 : decode cX6_ruin 8 = .ok (.aload_n 0, 1) := by decide +kernel
theorem dX6_ruin_9 : decode cX6_ruin 9 = .ok (.getfield 21, 3) := by decide +kernel
theorem dX6_ruin_12 : decode cX6_ruin 12 = .ok (.iload_n 1, 1) := by decide +kernel
theorem dX6_ruin_13 : decode cX6_ruin 13 = .ok (.iconst 1, 1) := by decide +kernel
theorem dX6_ruin_14 : decode cX6_ruin 14 = .ok (.iastore, 1) := by decide +kernel
theorem dX6_ruin_15 : decode cX6_ruin 15 = .ok (.aload_n 0, 1) := by decide +kernel
theorem dX6_ruin_16 : decode cX6_ruin 16 = .ok (.getfield 18, 3) := by decide +kernel
theorem dX6_ruin_19 : decode cX6_ruin 19 = .ok (.iload_n 1, 1) := by decide +kernel
theorem dX6_ruin_20 : decode cX6_ruin 20 = .ok (.iconst 0, 1) := by decide +kernel
theorem dX6_ruin_21 : decode cX6_ruin 21 = .ok (.iastore, 1) := by decide +kernel
theorem dX6_ruin_22 : decode cX6_ruin 22 = .ok (.return_, 1) := by decide +kernel
theorem dX6_moveIn_0 : decode cX6_moveIn 0 = .ok (.aload_n 0, 1) := by decide +kernel
theorem dX6_moveIn_1 : decode cX6_moveIn 1 = .ok (.iload_n 3, 1) := by decide +kernel
theorem dX6_moveIn_2 : decode cX6_moveIn 2 = .ok (.invokevirtual 34, 3) := by decide +kernel
theorem dX6_moveIn_5 : decode cX6_moveIn 5 = .ok (.ifCond .eq 59, 3) := by decide +kernel
theorem dX6_moveIn_8 : decode cX6_moveIn 8 = .ok (.aload_n 1, 1) := by decide +kernel
theorem dX6_moveIn_9 : decode cX6_moveIn 9 = .ok (.iload_n 2, 1) := by decide +kernel
theorem dX6_moveIn_10 : decode cX6_moveIn 10 = .ok (.invokevirtual 34, 3) := by decide +kernel
theorem dX6_moveIn_13 : decode cX6_moveIn 13 = .ok (.ifCond .eq 51, 3) := by decide +kernel
theorem dX6_moveIn_16 : decode cX6_moveIn 16 = .ok (.aload_n 0, 1) := by decide +kernel
theorem dX6_moveIn_17 : decode cX6_moveIn 17 = .ok (.getfield 9, 3) := by decide +kernel
theorem dX6_moveIn_20 : decode cX6_moveIn 20 = .ok (.iload_n 3, 1) := by decide +kernel
theorem dX6_moveIn_21 : decode cX6_moveIn 21 = .ok (.aload_n 1, 1) := by decide +kernel
theorem dX6_moveIn_22 : decode cX6_moveIn 22 = .ok (.getfield 9, 3) := by decide +kernel
theorem dX6_moveIn_25 : decode cX6_moveIn 25 = .ok (.iload_n 2, 1) := by decide +kernel
theorem dX6_moveIn_26 : decode cX6_moveIn 26 = .ok (.iaload, 1) := by decide +kernel
theorem dX6_moveIn_27 : decode cX6_moveIn 27 = .ok (.iastore, 1) := by decide +kernel
theorem dX6_moveIn_28 : decode cX6_moveIn 28 = .ok (.aload_n 0, 1) := by decide +kernel
theorem dX6_moveIn_29 : decode cX6_moveIn 29 = .ok (.getfield 15, 3) := by decide +kernel
theorem dX6_moveIn_32 : decode cX6_moveIn 32 = .ok (.iload_n 3, 1) := by decide +kernel
theorem dX6_moveIn_33 : decode cX6_moveIn 33 = .ok (.aload_n 1, 1) := by decide +kernel
theorem dX6_moveIn_34 : decode cX6_moveIn 34 = .ok (.getfield 15, 3) := by decide +kernel
theorem dX6_moveIn_37 : decode cX6_moveIn 37 = .ok (.iload_n 2, 1) := by decide +kernel
theorem dX6_moveIn_38 : decode cX6_moveIn 38 = .ok (.iaload, 1) := by decide +kernel
theorem dX6_moveIn_39 : decode cX6_moveIn 39 = .ok (.iastore, 1) := by decide +kernel
theorem dX6_moveIn_40 : decode cX6_moveIn 40 = .ok (.aload_n 0, 1) := by decide +kernel
theorem dX6_moveIn_41 : decode cX6_moveIn 41 = .ok (.getfield 18, 3) := by decide +kernel
theorem dX6_moveIn_44 : decode cX6_moveIn 44 = .ok (.iload_n 3, 1) := by decide +kernel
theorem dX6_moveIn_45 : decode cX6_moveIn 45 = .ok (.aload_n 1, 1) := by decide +kernel
theorem dX6_moveIn_46 : decode cX6_moveIn 46 = .ok (.getfield 18, 3) := by decide +kernel
theorem dX6_moveIn_49 : decode cX6_moveIn 49 = .ok (.iload_n 2, 1) := by decide +kernel
theorem dX6_moveIn_50 : decode cX6_moveIn 50 = .ok (.iaload, 1) := by decide +kernel
theorem dX6_moveIn_51 : decode cX6_moveIn 51 = .ok (.iastore, 1) := by decide +kernel
theorem dX6_moveIn_52 : decode cX6_moveIn 52 = .ok (.aload_n 0, 1) := by decide +kernel
theorem dX6_moveIn_53 : decode cX6_moveIn 53 = .ok (.getfield 21, 3) := by decide +kernel
theorem dX6_moveIn_56 : decode cX6_moveIn 56 = .ok (.iload_n 3, 1) := by decide +kernel
theorem dX6_moveIn_57 : decode cX6_moveIn 57 = .ok (.aload_n 1, 1) := by decide +kernel
theorem dX6_moveIn_58 : decode cX6_moveIn 58 = .ok (.getfield 21, 3) := by decide +kernel
theorem dX6_moveIn_61 : decode cX6_moveIn 61 = .ok (.iload_n 2, 1) := by decide +kernel
theorem dX6_moveIn_62 : decode cX6_moveIn 62 = .ok (.iaload, 1) := by decide +kernel
theorem dX6_moveIn_63 : decode cX6_moveIn 63 = .ok (.iastore, 1) := by decide +kernel
theorem dX6_moveIn_64 : decode cX6_moveIn 64 = .ok (.return_, 1) := by decide +kernel
theorem dX7_init_0 : decode cX7_init 0 = .ok (.aload_n 0, 1) := by decide +kernel
theorem dX7_init_1 : decode cX7_init 1 = .ok (.invokespecial 3, 3) := by decide +kernel
theorem dX7_init_4 : decode cX7_init 4 = .ok (.aload_n 0, 1) := by decide +kernel
theorem dX7_init_5 : decode cX7_init 5 = .ok (.new 9, 3) := by decide +kernel
theorem dX7_init_8 : decode cX7_init 8 = .ok (.dup, 1) := by decide +kernel
theorem dX7_init_9 : decode cX7_init 9 = .ok (.invokespecial 11, 3) := by decide +kernel
theorem dX7_init_12 : decode cX7_init 12 = .ok (.putfield 12, 3) := by decide +kernel
theorem dX7_init_15 : decode cX7_init 15 = .ok (.aload_n 0, 1) := by decide +kernel
theorem dX7_init_16 : decode cX7_init 16 = .ok (.new 18, 3) := by decide +kernel
theorem dX7_init_19 : decode cX7_init 19 = .ok (.dup, 1) := by decide +kernel
theorem dX7_init_20 : decode cX7_init 20 = .ok (.invokespecial 20, 3) := by decide +kernel
theorem dX7_init_23 : decode cX7_init 23 = .ok (.putfield 21, 3) := by decide +kernel
theorem dX7_init_26 : decode cX7_init 26 = .ok (.aload_n 0, 1) := by decide +kernel
theorem dX7_init_27 : decode cX7_init 27 = .ok (.sipush 900, 3) := by decide +kernel
theorem dX7_init_30 : decode cX7_init 30 = .ok (.newarray .int, 2) := by decide +kernel
theorem dX7_init_32 : decode cX7_init 32 = .ok (.putfield 25, 3) := by decide +kernel
theorem dX7_init_35 : decode cX7_init 35 = .ok (.return_, 1) := by decide +kernel
theorem dX7_read_0 : decode cX7_read 0 = .ok (.aload_n 0, 1) := by decide +kernel
theorem dX7_read_1 : decode cX7_read 1 = .ok (.new 9, 3) := by decide +kernel
theorem dX7_read_4 : decode cX7_read 4 = .ok (.dup, 1) := by decide +kernel
theorem dX7_read_5 : decode cX7_read 5 = .ok (.invokespecial 11, 3) := by decide +kernel
theorem dX7_read_8 : decode cX7_read 8 = .ok (.putfield 12, 3) := by decide +kernel
theorem dX7_read_11 : decode cX7_read 11 = .ok (.aload_n 0, 1) := by decide +kernel
theorem dX7_read_12 : decode cX7_read 12 = .ok (.iconst 0, 1) := by decide +kernel
theorem dX7_read_13 : decode cX7_read 13 = .ok (.putfield 29, 3) := by decide +kernel
theorem dX7_read_16 : decode cX7_read 16 = .ok (.aload_n 0, 1) := by decide +kernel
theorem dX7_read_17 : decode cX7_read 17 = .ok (.iconst (-1), 1) := by decide +kernel
theorem dX7_read_18 : decode cX7_read 18 = .ok (.putfield 33, 3) := by decide +kernel
theorem dX7_read_21 : decode cX7_read 21 = .ok (.aload_n 0, 1) := by decide +kernel
theorem dX7_read_22 : decode cX7_read 22 = .ok (.getfield 21, 3) := by decide +kernel
theorem dX7_read_25 : decode cX7_read 25 = .ok (.aload_n 1, 1) := by decide +kernel
theorem dX7_read_26 : decode cX7_read 26 = .ok (.iload_n 2, 1) := by decide +kernel
theorem dX7_read_27 : decode cX7_read 27 = .ok (.invokevirtual 36, 3) := by decide +kernel
theorem dX7_read_30 : decode cX7_read 30 = .ok (.aload_n 0, 1) := by decide +kernel
theorem dX7_read_31 : decode cX7_read 31 = .ok (.iconst (-1), 1) := by decide +kernel
theorem dX7_read_32 : decode cX7_read 32 = .ok (.putfield 40, 3) := by decide +kernel
theorem dX7_read_35 : decode cX7_read 35 = .ok (.aload_n 0, 1) := by decide +kernel
theorem dX7_read_36 : decode cX7_read 36 = .ok (.invokevirtual 43, 3) := by decide +kernel
theorem dX7_read_39 : decode cX7_read 39 = .ok (.aload_n 0, 1) := by decide +kernel
theorem dX7_read_40 : decode cX7_read 40 = .ok (.sipush 135, 3) := by decide +kernel
theorem dX7_read_43 : decode cX7_read 43 = .ok (.invokevirtual 46, 3) := by decide +kernel
theorem dX7_read_46 : decode cX7_read 46 = .ok (.istore_n 3, 1) := by decide +kernel
theorem dX7_read_47 : decode cX7_read 47 = .ok (.aload_n 0, 1) := by decide +kernel
theorem dX7_read_48 : decode cX7_read 48 = .ok (.getfield 12, 3) := by decide +kernel
theorem dX7_read_51 : decode cX7_read 51 = .ok (.aload_n 0, 1) := by decide +kernel
theorem dX7_read_52 : decode cX7_read 52 = .ok (.getfield 50, 3) := by decide +kernel
theorem dX7_read_55 : decode cX7_read 55 = .ok (.sipush 136, 3) := by decide +kernel
theorem dX7_read_58 : decode cX7_read 58 = .ok (.if_icmp .ne 7, 3) := by decide +kernel
theorem dX7_read_61 : decode cX7_read 61 = .ok (.iconst 1, 1) := by decide +kernel
theorem dX7_read_62 : decode cX7_read 62 = .ok (.goto 4, 3) := by decide +kernel
theorem dX7_read_65 : decode cX7_read 65 = .ok (.iconst 0, 1) := by decide +kernel
theorem dX7_read_66 : decode cX7_read 66 = .ok (.putfield 53, 3) := by decide +kernel
theorem dX7_read_69 : decode cX7_read 69 = .ok (.iload_n 3, 1) := by decide +kernel
theorem dX7_read_70 : decode cX7_read 70 = .ok (.ifCond .eq 42, 3) := by decide +kernel
theorem dX7_read_73 : decode cX7_read 73 = .ok (.aload_n 0, 1) := by decide +kernel
theorem dX7_read_74 : decode cX7_read 74 = .ok (.aload_n 0, 1) := by decide +kernel
theorem dX7_read_75 : decode cX7_read 75 = .ok (.getfield 12, 3) := by decide +kernel
theorem dX7_read_78 : decode cX7_read 78 = .ok (.getfield 53, 3) := by decide +kernel
theorem dX7_read_81 : decode cX7_read 81 = .ok (.ifCond .eq 9, 3) := by decide +kernel
theorem dX7_read_84 : decode cX7_read 84 = .ok (.sipush 136, 3) := by decide +kernel
theorem dX7_read_87 : decode cX7_read 87 = .ok (.goto 6, 3) := by decide +kernel
theorem dX7_read_90 : decode cX7_read 90 = .ok (.sipush 137, 3) := by decide +kernel
theorem dX7_read_93 : decode cX7_read 93 = .ok (.invokevirtual 46, 3) := by decide +kernel
theorem dX7_read_96 : decode cX7_read 96 = .ok (.ifCond .eq 16, 3) := by decide +kernel
theorem dX7_read_99 : decode cX7_read 99 = .ok (.aload_n 0, 1) := by decide +kernel
theorem dX7_read_100 : decode cX7_read 100 = .ok (.bipush 59, 2) := by decide +kernel
theorem dX7_read_102 : decode cX7_read 102 = .ok (.invokevirtual 46, 3) := by decide +kernel
theorem dX7_read_105 : decode cX7_read 105 = .ok (.ifCond .eq 7, 3) := by decide +kernel
theorem dX7_read_108 : decode cX7_read 108 = .ok (.iconst 1, 1) := by decide +kernel
theorem dX7_read_109 : decode cX7_read 109 = .ok (.goto 4, 3) := by decide +kernel
theorem dX7_read_112 : decode cX7_read 112 = .ok (.iconst 0, 1) := by decide +kernel
theorem dX7_read_113 : decode cX7_read 113 = .ok (.istore_n 3, 1) := by decide +kernel
theorem dX7_read_114 : decode cX7_read 114 = .ok (.aload_n 0, 1) := by decide +kernel
theorem dX7_read_115 : decode cX7_read 115 = .ok (.getfield 12, 3) := by decide +kernel
theorem dX7_read_118 : decode cX7_read 118 = .ok (.iconst 1, 1) := by decide +kernel
theorem dX7_read_119 : decode cX7_read 119 = .ok (.putfield 57, 3) := by decide +kernel
theorem dX7_read_122 : decode cX7_read 122 = .ok (.iconst 0, 1) := by decide +kernel
theorem dX7_read_123 : decode cX7_read 123 = .ok (.istore 4, 2) := by decide +kernel
theorem dX7_read_125 : decode cX7_read 125 = .ok (.iload 4, 2) := by decide +kernel
theorem dX7_read_127 : decode cX7_read 127 = .ok (.sipush 900, 3) := by decide +kernel
theorem dX7_read_130 : decode cX7_read 130 = .ok (.if_icmp .ge 59, 3) := by decide +kernel
theorem dX7_read_133 : decode cX7_read 133 = .ok (.iload_n 3, 1) := by decide +kernel
theorem dX7_read_134 : decode cX7_read 134 = .ok (.ifCond .eq 55, 3) := by decide +kernel
theorem dX7_read_137 : decode cX7_read 137 = .ok (.aload_n 0, 1) := by decide +kernel
theorem dX7_read_138 : decode cX7_read 138 = .ok (.getfield 50, 3) := by decide +kernel
theorem dX7_read_141 : decode cX7_read 141 = .ok (.ifCond .eq 48, 3) := by decide +kernel
theorem dX7_read_144 : decode cX7_read 144 = .ok (.aload_n 0, 1) := by decide +kernel
theorem dX7_read_145 : decode cX7_read 145 = .ok (.aload_n 0, 1) := by decide +kernel
theorem dX7_read_146 : decode cX7_read 146 = .ok (.getfield 50, 3) := by decide +kernel
theorem dX7_read_149 : decode cX7_read 149 = .ok (.invokevirtual 60, 3) := by decide +kernel
theorem dX7_read_152 : decode cX7_read 152 = .ok (.ifCond .eq 16, 3) := by decide +kernel
theorem dX7_read_155 : decode cX7_read 155 = .ok (.aload_n 0, 1) := by decide +kernel
theorem dX7_read_156 : decode cX7_read 156 = .ok (.bipush 59, 2) := by decide +kernel
theorem dX7_read_158 : decode cX7_read 158 = .ok (.invokevirtual 46, 3) := by decide +kernel
theorem dX7_read_161 : decode cX7_read 161 = .ok (.ifCond .eq 7, 3) := by decide +kernel
theorem dX7_read_164 : decode cX7_read 164 = .ok (.iconst 1, 1) := by decide +kernel
theorem dX7_read_165 : decode cX7_read 165 = .ok (.goto 4, 3) := by decide +kernel
theorem dX7_read_168 : decode cX7_read 168 = .ok (.iconst 0, 1) := by decide +kernel
theorem dX7_read_169 : decode cX7_read 169 = .ok (.istore_n 3, 1) := by decide +kernel
theorem dX7_read_170 : decode cX7_read 170 = .ok (.aload_n 0, 1) := by decide +kernel
theorem dX7_read_171 : decode cX7_read 171 = .ok (.getfield 12, 3) := by decide +kernel
theorem dX7_read_174 : decode cX7_read 174 = .ok (.dup, 1) := by decide +kernel
theorem dX7_read_175 : decode cX7_read 175 = .ok (.getfield 57, 3) := by decide +kernel
theorem dX7_read_178 : decode cX7_read 178 = .ok (.iconst 1, 1) := by decide +kernel
theorem dX7_read_179 : decode cX7_read 179 = .ok (.iadd, 1) := by decide +kernel
theorem dX7_read_180 : decode cX7_read 180 = .ok (.putfield 57, 3) := by decide +kernel
theorem dX7_read_183 : decode cX7_read 183 = .ok (.iinc 4 1, 3) := by decide +kernel
theorem dX7_read_186 : decode cX7_read 186 = .ok (.goto (-61), 3) := by decide +kernel
theorem dX7_read_189 : decode cX7_read 189 = .ok (.iload_n 3, 1) := by decide +kernel
theorem dX7_read_190 : decode cX7_read 190 = .ok (.ireturn, 1) := by decide +kernel
theorem dX7_line_0 : decode cX7_line 0 = .ok (.iload_n 1, 1) := by decide +kernel
theorem dX7_line_1 : decode cX7_line 1 = .ok (.tableswitch 260 129 144 #[79, 219, 260, 260, 260, 260, 260, 260, 260, 260, 260, 260, 91, 122, 153, 184], 79) := by decide +kernel
theorem dX7_line_80 : decode cX7_line 80 = .ok (.aload_n 0, 1) := by decide +kernel
theorem dX7_line_81 : decode cX7_line 81 = .ok (.aload_n 0, 1) := by decide +kernel
theorem dX7_line_82 : decode cX7_line 82 = .ok (.getfield 12, 3) := by decide +kernel
theorem dX7_line_85 : decode cX7_line 85 = .ok (.getfield 63, 3) := by decide +kernel
theorem dX7_line_88 : decode cX7_line 88 = .ok (.invokevirtual 67, 3) := by decide +kernel
theorem dX7_line_91 : decode cX7_line 91 = .ok (.ireturn, 1) := by decide +kernel
theorem dX7_line_92 : decode cX7_line 92 = .ok (.aload_n 0, 1) := by decide +kernel
theorem dX7_line_93 : decode cX7_line 93 = .ok (.bipush 63, 2) := by decide +kernel
theorem dX7_line_95 : decode cX7_line 95 = .ok (.invokevirtual 71, 3) := by decide +kernel
theorem dX7_line_98 : decode cX7_line 98 = .ok (.ifCond .eq 23, 3) := by decide +kernel
theorem dX7_line_101 : decode cX7_line 101 = .ok (.aload_n 0, 1) := by decide +kernel
theorem dX7_line_102 : decode cX7_line 102 = .ok (.iconst 0, 1) := by decide +kernel
theorem dX7_line_103 : decode cX7_line 103 = .ok (.invokevirtual 74, 3) := by decide +kernel
theorem dX7_line_106 : decode cX7_line 106 = .ok (.ifCond .eq 15, 3) := by decide +kernel
theorem dX7_line_109 : decode cX7_line 109 = .ok (.aload_n 0, 1) := by decide +kernel
theorem dX7_line_110 : decode cX7_line 110 = .ok (.iload_n 1, 1) := by decide +kernel
theorem dX7_line_111 : decode cX7_line 111 = .ok (.invokevirtual 77, 3) := by decide +kernel
theorem dX7_line_114 : decode cX7_line 114 = .ok (.ifCond .eq 7, 3) := by decide +kernel
theorem dX7_line_117 : decode cX7_line 117 = .ok (.iconst 1, 1) := by decide +kernel
theorem dX7_line_118 : decode cX7_line 118 = .ok (.goto 4, 3) := by decide +kernel
theorem dX7_line_121 : decode cX7_line 121 = .ok (.iconst 0, 1) := by decide +kernel
theorem dX7_line_122 : decode cX7_line 122 = .ok (.ireturn, 1) := by decide +kernel
theorem dX7_line_123 : decode cX7_line 123 = .ok (.aload_n 0, 1) := by decide +kernel
theorem dX7_line_124 : decode cX7_line 124 = .ok (.bipush 7, 2) := by decide +kernel
theorem dX7_line_126 : decode cX7_line 126 = .ok (.invokevirtual 71, 3) := by decide +kernel
theorem dX7_line_129 : decode cX7_line 129 = .ok (.ifCond .eq 23, 3) := by decide +kernel
theorem dX7_line_132 : decode cX7_line 132 = .ok (.aload_n 0, 1) := by decide +kernel
theorem dX7_line_133 : decode cX7_line 133 = .ok (.iconst 0, 1) := by decide +kernel
theorem dX7_line_134 : decode cX7_line 134 = .ok (.invokevirtual 74, 3) := by decide +kernel
theorem dX7_line_137 : decode cX7_line 137 = .ok (.ifCond .eq 15, 3) := by decide +kernel
theorem dX7_line_140 : decode cX7_line 140 = .ok (.aload_n 0, 1) := by decide +kernel
theorem dX7_line_141 : decode cX7_line 141 = .ok (.iload_n 1, 1) := by decide +kernel
theorem dX7_line_142 : decode cX7_line 142 = .ok (.invokevirtual 77, 3) := by decide +kernel
theorem dX7_line_145 : decode cX7_line 145 = .ok (.ifCond .eq 7, 3) := by decide +kernel
theorem dX7_line_148 : decode cX7_line 148 = .ok (.iconst 1, 1) := by decide +kernel
theorem dX7_line_149 : decode cX7_line 149 = .ok (.goto 4, 3) := by decide +kernel
theorem dX7_line_152 : decode cX7_line 152 = .ok (.iconst 0, 1) := by decide +kernel
theorem dX7_line_153 : decode cX7_line 153 = .ok (.ireturn, 1) := by decide +kernel
theorem dX7_line_154 : decode cX7_line 154 = .ok (.aload_n 0, 1) := by decide +kernel
theorem dX7_line_155 : decode cX7_line 155 = .ok (.bipush 79, 2) := by decide +kernel
theorem dX7_line_157 : decode cX7_line 157 = .ok (.invokevirtual 71, 3) := by decide +kernel
theorem dX7_line_160 : decode cX7_line 160 = .ok (.ifCond .eq 23, 3) := by decide +kernel
theorem dX7_line_163 : decode cX7_line 163 = .ok (.aload_n 0, 1) := by decide +kernel
theorem dX7_line_164 : decode cX7_line 164 = .ok (.iconst 0, 1) := by decide +kernel
theorem dX7_line_165 : decode cX7_line 165 = .ok (.invokevirtual 80, 3) := by decide +kernel
theorem dX7_line_168 : decode cX7_line 168 = .ok (.ifCond .eq 15, 3) := by decide +kernel
theorem dX7_line_171 : decode cX7_line 171 = .ok (.aload_n 0, 1) := by decide +kernel
theorem dX7_line_172 : decode cX7_line 172 = .ok (.iload_n 1, 1) := by decide +kernel
theorem dX7_line_173 : decode cX7_line 173 = .ok (.invokevirtual 77, 3) := by decide +kernel
theorem dX7_line_176 : decode cX7_line 176 = .ok (.ifCond .eq 7, 3) := by decide +kernel
theorem dX7_line_179 : decode cX7_line 179 = .ok (.iconst 1, 1) := by decide +kernel
theorem dX7_line_180 : decode cX7_line 180 = .ok (.goto 4, 3) := by decide +kernel
theorem dX7_line_183 : decode cX7_line 183 = .ok (.iconst 0, 1) := by decide +kernel
theorem dX7_line_184 : decode cX7_line 184 = .ok (.ireturn, 1) := by decide +kernel
theorem dX7_line_185 : decode cX7_line 185 = .ok (.aload_n 0, 1) := by decide +kernel
theorem dX7_line_186 : decode cX7_line 186 = .ok (.invokevirtual 43, 3) := by decide +kernel
theorem dX7_line_189 : decode cX7_line 189 = .ok (.aload_n 0, 1) := by decide +kernel
theorem dX7_line_190 : decode cX7_line 190 = .ok (.getfield 12, 3) := by decide +kernel
theorem dX7_line_193 : decode cX7_line 193 = .ok (.aload_n 0, 1) := by decide +kernel
theorem dX7_line_194 : decode cX7_line 194 = .ok (.sipush 999, 3) := by decide +kernel
theorem dX7_line_197 : decode cX7_line 197 = .ok (.invokevirtual 83, 3) := by decide +kernel
theorem dX7_line_200 : decode cX7_line 200 = .ok (.putfield 87, 3) := by decide +kernel
theorem dX7_line_203 : decode cX7_line 203 = .ok (.aload_n 0, 1) := by decide +kernel
theorem dX7_line_204 : decode cX7_line 204 = .ok (.getfield 12, 3) := by decide +kernel
theorem dX7_line_207 : decode cX7_line 207 = .ok (.getfield 87, 3) := by decide +kernel
theorem dX7_line_210 : decode cX7_line 210 = .ok (.iconst (-1), 1) := by decide +kernel
theorem dX7_line_211 : decode cX7_line 211 = .ok (.if_icmp .eq 7, 3) := by decide +kernel
theorem dX7_line_214 : decode cX7_line 214 = .ok (.iconst 1, 1) := by decide +kernel
theorem dX7_line_215 : decode cX7_line 215 = .ok (.goto 4, 3) := by decide +kernel
theorem dX7_line_218 : decode cX7_line 218 = .ok (.iconst 0, 1) := by decide +kernel
theorem dX7_line_219 : decode cX7_line 219 = .ok (.ireturn, 1) := by decide +kernel
theorem dX7_line_220 : decode cX7_line 220 = .ok (.aload_n 0, 1) := by decide +kernel
theorem dX7_line_221 : decode cX7_line 221 = .ok (.invokevirtual 43, 3) := by decide +kernel
theorem dX7_line_224 : decode cX7_line 224 = .ok (.aload_n 0, 1) := by decide +kernel
theorem dX7_line_225 : decode cX7_line 225 = .ok (.getfield 12, 3) := by decide +kernel
theorem dX7_line_228 : decode cX7_line 228 = .ok (.getfield 63, 3) := by decide +kernel
theorem dX7_line_231 : decode cX7_line 231 = .ok (.aload_n 0, 1) := by decide +kernel
theorem dX7_line_232 : decode cX7_line 232 = .ok (.sipush 999, 3) := by decide +kernel
theorem dX7_line_235 : decode cX7_line 235 = .ok (.invokevirtual 83, 3) := by decide +kernel
theorem dX7_line_238 : decode cX7_line 238 = .ok (.putfield 90, 3) := by decide +kernel
theorem dX7_line_241 : decode cX7_line 241 = .ok (.aload_n 0, 1) := by decide +kernel
theorem dX7_line_242 : decode cX7_line 242 = .ok (.getfield 12, 3) := by decide +kernel
theorem dX7_line_245 : decode cX7_line 245 = .ok (.getfield 63, 3) := by decide +kernel
theorem dX7_line_248 : decode cX7_line 248 = .ok (.getfield 90, 3) := by decide +kernel
theorem dX7_line_251 : decode cX7_line 251 = .ok (.iconst (-1), 1) := by decide +kernel
theorem dX7_line_252 : decode cX7_line 252 = .ok (.if_icmp .eq 7, 3) := by decide +kernel
theorem dX7_line_255 : decode cX7_line 255 = .ok (.iconst 1, 1) := by decide +kernel
theorem dX7_line_256 : decode cX7_line 256 = .ok (.goto 4, 3) := by decide +kernel
theorem dX7_line_259 : decode cX7_line 259 = .ok (.iconst 0, 1) := by decide +kernel
theorem dX7_line_260 : decode cX7_line 260 = .ok (.ireturn, 1) := by decide +kernel
theorem dX7_line_261 : decode cX7_line 261 = .ok (.aload_n 0, 1) := by decide +kernel
theorem dX7_line_262 : decode cX7_line 262 = .ok (.iconst 2, 1) := by decide +kernel
theorem dX7_line_263 : decode cX7_line 263 = .ok (.invokevirtual 95, 3) := by decide +kernel
theorem dX7_line_266 : decode cX7_line 266 = .ok (.ireturn, 1) := by decide +kernel
theorem dX7_skip_0 : decode cX7_skip 0 = .ok (.aload_n 0, 1) := by decide +kernel
theorem dX7_skip_1 : decode cX7_skip 1 = .ok (.getfield 40, 3) := by decide +kernel
theorem dX7_skip_4 : decode cX7_skip 4 = .ok (.iconst 1, 1) := by decide +kernel
theorem dX7_skip_5 : decode cX7_skip 5 = .ok (.iadd, 1) := by decide +kernel
theorem dX7_skip_6 : decode cX7_skip 6 = .ok (.istore_n 1, 1) := by decide +kernel
theorem dX7_skip_7 : decode cX7_skip 7 = .ok (.iload_n 1, 1) := by decide +kernel
theorem dX7_skip_8 : decode cX7_skip 8 = .ok (.ifCond .lt 39, 3) := by decide +kernel
theorem dX7_skip_11 : decode cX7_skip 11 = .ok (.iload_n 1, 1) := by decide +kernel
theorem dX7_skip_12 : decode cX7_skip 12 = .ok (.aload_n 0, 1) := by decide +kernel
theorem dX7_skip_13 : decode cX7_skip 13 = .ok (.getfield 21, 3) := by decide +kernel
theorem dX7_skip_16 : decode cX7_skip 16 = .ok (.getfield 98, 3) := by decide +kernel
theorem dX7_skip_19 : decode cX7_skip 19 = .ok (.if_icmp .ge 28, 3) := by decide +kernel
theorem dX7_skip_22 : decode cX7_skip 22 = .ok (.iload_n 1, 1) := by decide +kernel
theorem dX7_skip_23 : decode cX7_skip 23 = .ok (.sipush 900, 3) := by decide +kernel
theorem dX7_skip_26 : decode cX7_skip 26 = .ok (.if_icmp .gt 21, 3) := by decide +kernel
theorem dX7_skip_29 : decode cX7_skip 29 = .ok (.aload_n 0, 1) := by decide +kernel
theorem dX7_skip_30 : decode cX7_skip 30 = .ok (.iload_n 1, 1) := by decide +kernel
theorem dX7_skip_31 : decode cX7_skip 31 = .ok (.putfield 40, 3) := by decide +kernel
theorem dX7_skip_34 : decode cX7_skip 34 = .ok (.aload_n 0, 1) := by decide +kernel
theorem dX7_skip_35 : decode cX7_skip 35 = .ok (.aload_n 0, 1) := by decide +kernel
theorem dX7_skip_36 : decode cX7_skip 36 = .ok (.getfield 21, 3) := by decide +kernel
theorem dX7_skip_39 : decode cX7_skip 39 = .ok (.getfield 101, 3) := by decide +kernel
theorem dX7_skip_42 : decode cX7_skip 42 = .ok (.iload_n 1, 1) := by decide +kernel
theorem dX7_skip_43 : decode cX7_skip 43 = .ok (.iaload, 1) := by decide +kernel
theorem dX7_skip_44 : decode cX7_skip 44 = .ok (.putfield 50, 3) := by decide +kernel
theorem dX7_skip_47 : decode cX7_skip 47 = .ok (.return_, 1) := by decide +kernel
theorem dX7_fail_0 : decode cX7_fail 0 = .ok (.aload_n 0, 1) := by decide +kernel
theorem dX7_fail_1 : decode cX7_fail 1 = .ok (.aload_n 0, 1) := by decide +kernel
theorem dX7_fail_2 : decode cX7_fail 2 = .ok (.getfield 50, 3) := by decide +kernel
theorem dX7_fail_5 : decode cX7_fail 5 = .ok (.iconst 1, 1) := by decide +kernel
theorem dX7_fail_6 : decode cX7_fail 6 = .ok (.if_icmp .ne 7, 3) := by decide +kernel
theorem dX7_fail_9 : decode cX7_fail 9 = .ok (.iconst 1, 1) := by decide +kernel
theorem dX7_fail_10 : decode cX7_fail 10 = .ok (.goto 4, 3) := by decide +kernel
theorem dX7_fail_13 : decode cX7_fail 13 = .ok (.iload_n 1, 1) := by decide +kernel
theorem dX7_fail_14 : decode cX7_fail 14 = .ok (.putfield 29, 3) := by decide +kernel
theorem dX7_fail_17 : decode cX7_fail 17 = .ok (.aload_n 0, 1) := by decide +kernel
theorem dX7_fail_18 : decode cX7_fail 18 = .ok (.aload_n 0, 1) := by decide +kernel
theorem dX7_fail_19 : decode cX7_fail 19 = .ok (.getfield 40, 3) := by decide +kernel
theorem dX7_fail_22 : decode cX7_fail 22 = .ok (.ifCond .lt 28, 3) := by decide +kernel
theorem dX7_fail_25 : decode cX7_fail 25 = .ok (.aload_n 0, 1) := by decide +kernel
theorem dX7_fail_26 : decode cX7_fail 26 = .ok (.getfield 40, 3) := by decide +kernel
theorem dX7_fail_29 : decode cX7_fail 29 = .ok (.sipush 900, 3) := by decide +kernel
theorem dX7_fail_32 : decode cX7_fail 32 = .ok (.if_icmp .gt 18, 3) := by decide +kernel
theorem dX7_fail_35 : decode cX7_fail 35 = .ok (.aload_n 0, 1) := by decide +kernel
theorem dX7_fail_36 : decode cX7_fail 36 = .ok (.getfield 21, 3) := by decide +kernel
theorem dX7_fail_39 : decode cX7_fail 39 = .ok (.getfield 104, 3) := by decide +kernel
theorem dX7_fail_42 : decode cX7_fail 42 = .ok (.aload_n 0, 1) := by decide +kernel
theorem dX7_fail_43 : decode cX7_fail 43 = .ok (.getfield 40, 3) := by decide +kernel
theorem dX7_fail_46 : decode cX7_fail 46 = .ok (.iaload, 1) := by decide +kernel
theorem dX7_fail_47 : decode cX7_fail 47 = .ok (.goto 4, 3) := by decide +kernel
theorem dX7_fail_50 : decode cX7_fail 50 = .ok (.iconst 0, 1) := by decide +kernel
theorem dX7_fail_51 : decode cX7_fail 51 = .ok (.putfield 33, 3) := by decide +kernel
theorem dX7_fail_54 : decode cX7_fail 54 = .ok (.iconst 0, 1) := by decide +kernel
theorem dX7_fail_55 : decode cX7_fail 55 = .ok (.ireturn, 1) := by decide +kernel
theorem dX7_expect_0 : decode cX7_expect 0 = .ok (.aload_n 0, 1) := by decide +kernel
theorem dX7_expect_1 : decode cX7_expect 1 = .ok (.getfield 50, 3) := by decide +kernel
theorem dX7_expect_4 : decode cX7_expect 4 = .ok (.iload_n 1, 1) := by decide +kernel
theorem dX7_expect_5 : decode cX7_expect 5 = .ok (.if_icmp .eq 9, 3) := by decide +kernel
theorem dX7_expect_8 : decode cX7_expect 8 = .ok (.aload_n 0, 1) := by decide +kernel
theorem dX7_expect_9 : decode cX7_expect 9 = .ok (.iconst 2, 1) := by decide +kernel
theorem dX7_expect_10 : decode cX7_expect 10 = .ok (.invokevirtual 95, 3) := by decide +kernel
theorem dX7_expect_13 : decode cX7_expect 13 = .ok (.ireturn, 1) := by decide +kernel
theorem dX7_expect_14 : decode cX7_expect 14 = .ok (.aload_n 0, 1) := by decide +kernel
theorem dX7_expect_15 : decode cX7_expect 15 = .ok (.invokevirtual 43, 3) := by decide +kernel
theorem dX7_expect_18 : decode cX7_expect 18 = .ok (.iconst 1, 1) := by decide +kernel
theorem dX7_expect_19 : decode cX7_expect 19 = .ok (.ireturn, 1) := by decide +kernel
theorem dX7_number_0 : decode cX7_number 0 = .ok (.aload_n 0, 1) := by decide +kernel
theorem dX7_number_1 : decode cX7_number 1 = .ok (.getfield 40, 3) := by decide +kernel
theorem dX7_number_4 : decode cX7_number 4 = .ok (.ifCond .lt 28, 3) := by decide +kernel
theorem dX7_number_7 : decode cX7_number 7 = .ok (.aload_n 0, 1) := by decide +kernel
theorem dX7_number_8 : decode cX7_number 8 = .ok (.getfield 40, 3) := by decide +kernel
theorem dX7_number_11 : decode cX7_number 11 = .ok (.sipush 900, 3) := by decide +kernel
theorem dX7_number_14 : decode cX7_number 14 = .ok (.if_icmp .gt 18, 3) := by decide +kernel
theorem dX7_number_17 : decode cX7_number 17 = .ok (.aload_n 0, 1) := by decide +kernel
theorem dX7_number_18 : decode cX7_number 18 = .ok (.getfield 21, 3) := by decide +kernel
theorem dX7_number_21 : decode cX7_number 21 = .ok (.getfield 107, 3) := by decide +kernel
theorem dX7_number_24 : decode cX7_number 24 = .ok (.aload_n 0, 1) := by decide +kernel
theorem dX7_number_25 : decode cX7_number 25 = .ok (.getfield 40, 3) := by decide +kernel
theorem dX7_number_28 : decode cX7_number 28 = .ok (.iaload, 1) := by decide +kernel
theorem dX7_number_29 : decode cX7_number 29 = .ok (.goto 4, 3) := by decide +kernel
theorem dX7_number_32 : decode cX7_number 32 = .ok (.iconst 0, 1) := by decide +kernel
theorem dX7_number_33 : decode cX7_number 33 = .ok (.ireturn, 1) := by decide +kernel
theorem dX7_numberTo_0 : decode cX7_numberTo 0 = .ok (.aload_n 0, 1) := by decide +kernel
theorem dX7_numberTo_1 : decode cX7_numberTo 1 = .ok (.invokevirtual 110, 3) := by decide +kernel
theorem dX7_numberTo_4 : decode cX7_numberTo 4 = .ok (.istore_n 2, 1) := by decide +kernel
theorem dX7_numberTo_5 : decode cX7_numberTo 5 = .ok (.aload_n 0, 1) := by decide +kernel
theorem dX7_numberTo_6 : decode cX7_numberTo 6 = .ok (.getfield 50, 3) := by decide +kernel
theorem dX7_numberTo_9 : decode cX7_numberTo 9 = .ok (.iconst 2, 1) := by decide +kernel
theorem dX7_numberTo_10 : decode cX7_numberTo 10 = .ok (.if_icmp .eq 11, 3) := by decide +kernel
theorem dX7_numberTo_13 : decode cX7_numberTo 13 = .ok (.aload_n 0, 1) := by decide +kernel
theorem dX7_numberTo_14 : decode cX7_numberTo 14 = .ok (.iconst 2, 1) := by decide +kernel
theorem dX7_numberTo_15 : decode cX7_numberTo 15 = .ok (.invokevirtual 95, 3) := by decide +kernel
theorem dX7_numberTo_18 : decode cX7_numberTo 18 = .ok (.pop, 1) := by decide +kernel
theorem dX7_numberTo_19 : decode cX7_numberTo 19 = .ok (.iconst (-1), 1) := by decide +kernel
theorem dX7_numberTo_20 : decode cX7_numberTo 20 = .ok (.ireturn, 1) := by decide +kernel
theorem dX7_numberTo_21 : decode cX7_numberTo 21 = .ok (.iload_n 2, 1) := by decide +kernel
theorem dX7_numberTo_22 : decode cX7_numberTo 22 = .ok (.iload_n 1, 1) := by decide +kernel
theorem dX7_numberTo_23 : decode cX7_numberTo 23 = .ok (.if_icmp .le 11, 3) := by decide +kernel
theorem dX7_numberTo_26 : decode cX7_numberTo 26 = .ok (.aload_n 0, 1) := by decide +kernel
theorem dX7_numberTo_27 : decode cX7_numberTo 27 = .ok (.iconst 3, 1) := by decide +kernel
theorem dX7_numberTo_28 : decode cX7_numberTo 28 = .ok (.invokevirtual 95, 3) := by decide +kernel
theorem dX7_numberTo_31 : decode cX7_numberTo 31 = .ok (.pop, 1) := by decide +kernel
theorem dX7_numberTo_32 : decode cX7_numberTo 32 = .ok (.iconst (-1), 1) := by decide +kernel
theorem dX7_numberTo_33 : decode cX7_numberTo 33 = .ok (.ireturn, 1) := by decide +kernel
theorem dX7_numberTo_34 : decode cX7_numberTo 34 = .ok (.aload_n 0, 1) := by decide +kernel
theorem dX7_numberTo_35 : decode cX7_numberTo 35 = .ok (.invokevirtual 43, 3) := by decide +kernel
theorem dX7_numberTo_38 : decode cX7_numberTo 38 = .ok (.iload_n 2, 1) := by decide +kernel
theorem dX7_numberTo_39 : decode cX7_numberTo 39 = .ok (.ireturn, 1) := by decide +kernel
theorem dX7_home_0 : decode cX7_home 0 = .ok (.aload_n 1, 1) := by decide +kernel
theorem dX7_home_1 : decode cX7_home 1 = .ok (.getfield 114, 3) := by decide +kernel
theorem dX7_home_4 : decode cX7_home 4 = .ok (.istore_n 2, 1) := by decide +kernel
theorem dX7_home_5 : decode cX7_home 5 = .ok (.iload_n 2, 1) := by decide +kernel
theorem dX7_home_6 : decode cX7_home 6 = .ok (.ifCond .lt 9, 3) := by decide +kernel
theorem dX7_home_9 : decode cX7_home 9 = .ok (.iload_n 2, 1) := by decide +kernel
theorem dX7_home_10 : decode cX7_home 10 = .ok (.bipush 7, 2) := by decide +kernel
theorem dX7_home_12 : decode cX7_home 12 = .ok (.if_icmp .lt 9, 3) := by decide +kernel
theorem dX7_home_15 : decode cX7_home 15 = .ok (.aload_n 0, 1) := by decide +kernel
theorem dX7_home_16 : decode cX7_home 16 = .ok (.iconst 4, 1) := by decide +kernel
theorem dX7_home_17 : decode cX7_home 17 = .ok (.invokevirtual 95, 3) := by decide +kernel
theorem dX7_home_20 : decode cX7_home 20 = .ok (.ireturn, 1) := by decide +kernel
theorem dX7_home_21 : decode cX7_home 21 = .ok (.aload_n 0, 1) := by decide +kernel
theorem dX7_home_22 : decode cX7_home 22 = .ok (.invokevirtual 43, 3) := by decide +kernel
theorem dX7_home_25 : decode cX7_home 25 = .ok (.aload_n 1, 1) := by decide +kernel
theorem dX7_home_26 : decode cX7_home 26 = .ok (.getfield 117, 3) := by decide +kernel
theorem dX7_home_29 : decode cX7_home 29 = .ok (.iload_n 2, 1) := by decide +kernel
theorem dX7_home_30 : decode cX7_home 30 = .ok (.aload_n 0, 1) := by decide +kernel
theorem dX7_home_31 : decode cX7_home 31 = .ok (.bipush 99, 2) := by decide +kernel
theorem dX7_home_33 : decode cX7_home 33 = .ok (.invokevirtual 83, 3) := by decide +kernel
theorem dX7_home_36 : decode cX7_home 36 = .ok (.iastore, 1) := by decide +kernel
theorem dX7_home_37 : decode cX7_home 37 = .ok (.aload_n 1, 1) := by decide +kernel
theorem dX7_home_38 : decode cX7_home 38 = .ok (.getfield 117, 3) := by decide +kernel
theorem dX7_home_41 : decode cX7_home 41 = .ok (.iload_n 2, 1) := by decide +kernel
theorem dX7_home_42 : decode cX7_home 42 = .ok (.iaload, 1) := by decide +kernel
theorem dX7_home_43 : decode cX7_home 43 = .ok (.iconst (-1), 1) := by decide +kernel
theorem dX7_home_44 : decode cX7_home 44 = .ok (.if_icmp .eq 13, 3) := by decide +kernel
theorem dX7_home_47 : decode cX7_home 47 = .ok (.aload_n 0, 1) := by decide +kernel
theorem dX7_home_48 : decode cX7_home 48 = .ok (.sipush 133, 3) := by decide +kernel
theorem dX7_home_51 : decode cX7_home 51 = .ok (.invokevirtual 46, 3) := by decide +kernel
theorem dX7_home_54 : decode cX7_home 54 = .ok (.ifCond .ne 5, 3) := by decide +kernel
theorem dX7_home_57 : decode cX7_home 57 = .ok (.iconst 0, 1) := by decide +kernel
theorem dX7_home_58 : decode cX7_home 58 = .ok (.ireturn, 1) := by decide +kernel
theorem dX7_home_59 : decode cX7_home 59 = .ok (.aload_n 1, 1) := by decide +kernel
theorem dX7_home_60 : decode cX7_home 60 = .ok (.getfield 120, 3) := by decide +kernel
theorem dX7_home_63 : decode cX7_home 63 = .ok (.iload_n 2, 1) := by decide +kernel
theorem dX7_home_64 : decode cX7_home 64 = .ok (.aload_n 0, 1) := by decide +kernel
theorem dX7_home_65 : decode cX7_home 65 = .ok (.bipush 99, 2) := by decide +kernel
theorem dX7_home_67 : decode cX7_home 67 = .ok (.invokevirtual 83, 3) := by decide +kernel
theorem dX7_home_70 : decode cX7_home 70 = .ok (.iastore, 1) := by decide +kernel
theorem dX7_home_71 : decode cX7_home 71 = .ok (.aload_n 1, 1) := by decide +kernel
theorem dX7_home_72 : decode cX7_home 72 = .ok (.getfield 120, 3) := by decide +kernel
theorem dX7_home_75 : decode cX7_home 75 = .ok (.iload_n 2, 1) := by decide +kernel
theorem dX7_home_76 : decode cX7_home 76 = .ok (.iaload, 1) := by decide +kernel
theorem dX7_home_77 : decode cX7_home 77 = .ok (.iconst (-1), 1) := by decide +kernel
theorem dX7_home_78 : decode cX7_home 78 = .ok (.if_icmp .eq 7, 3) := by decide +kernel
theorem dX7_home_81 : decode cX7_home 81 = .ok (.iconst 1, 1) := by decide +kernel
theorem dX7_home_82 : decode cX7_home 82 = .ok (.goto 4, 3) := by decide +kernel
theorem dX7_home_85 : decode cX7_home 85 = .ok (.iconst 0, 1) := by decide +kernel
theorem dX7_home_86 : decode cX7_home 86 = .ok (.istore_n 3, 1) := by decide +kernel
theorem dX7_home_87 : decode cX7_home 87 = .ok (.iconst 0, 1) := by decide +kernel
theorem dX7_home_88 : decode cX7_home 88 = .ok (.istore 4, 2) := by decide +kernel
theorem dX7_home_90 : decode cX7_home 90 = .ok (.iload 4, 2) := by decide +kernel
theorem dX7_home_92 : decode cX7_home 92 = .ok (.sipush 900, 3) := by decide +kernel
theorem dX7_home_95 : decode cX7_home 95 = .ok (.if_icmp .ge 27, 3) := by decide +kernel
theorem dX7_home_98 : decode cX7_home 98 = .ok (.iload_n 3, 1) := by decide +kernel
theorem dX7_home_99 : decode cX7_home 99 = .ok (.ifCond .eq 23, 3) := by decide +kernel
theorem dX7_home_102 : decode cX7_home 102 = .ok (.aload_n 0, 1) := by decide +kernel
theorem dX7_home_103 : decode cX7_home 103 = .ok (.invokevirtual 123, 3) := by decide +kernel
theorem dX7_home_106 : decode cX7_home 106 = .ok (.ifCond .eq 16, 3) := by decide +kernel
theorem dX7_home_109 : decode cX7_home 109 = .ok (.aload_n 0, 1) := by decide +kernel
theorem dX7_home_110 : decode cX7_home 110 = .ok (.aload_n 1, 1) := by decide +kernel
theorem dX7_home_111 : decode cX7_home 111 = .ok (.iload_n 2, 1) := by decide +kernel
theorem dX7_home_112 : decode cX7_home 112 = .ok (.invokevirtual 127, 3) := by decide +kernel
theorem dX7_home_115 : decode cX7_home 115 = .ok (.istore_n 3, 1) := by decide +kernel
theorem dX7_home_116 : decode cX7_home 116 = .ok (.iinc 4 1, 3) := by decide +kernel
theorem dX7_home_119 : decode cX7_home 119 = .ok (.goto (-29), 3) := by decide +kernel
theorem dX7_home_122 : decode cX7_home 122 = .ok (.aload_n 1, 1) := by decide +kernel
theorem dX7_home_123 : decode cX7_home 123 = .ok (.getfield 131, 3) := by decide +kernel
theorem dX7_home_126 : decode cX7_home 126 = .ok (.iload_n 2, 1) := by decide +kernel
theorem dX7_home_127 : decode cX7_home 127 = .ok (.iaload, 1) := by decide +kernel
theorem dX7_home_128 : decode cX7_home 128 = .ok (.iconst 1, 1) := by decide +kernel
theorem dX7_home_129 : decode cX7_home 129 = .ok (.if_icmp .ne 10, 3) := by decide +kernel
theorem dX7_home_132 : decode cX7_home 132 = .ok (.aload_n 1, 1) := by decide +kernel
theorem dX7_home_133 : decode cX7_home 133 = .ok (.getfield 134, 3) := by decide +kernel
theorem dX7_home_136 : decode cX7_home 136 = .ok (.iload_n 2, 1) := by decide +kernel
theorem dX7_home_137 : decode cX7_home 137 = .ok (.iconst 0, 1) := by decide +kernel
theorem dX7_home_138 : decode cX7_home 138 = .ok (.iastore, 1) := by decide +kernel
theorem dX7_home_139 : decode cX7_home 139 = .ok (.aload_n 1, 1) := by decide +kernel
theorem dX7_home_140 : decode cX7_home 140 = .ok (.dup, 1) := by decide +kernel
theorem dX7_home_141 : decode cX7_home 141 = .ok (.getfield 114, 3) := by decide +kernel
theorem dX7_home_144 : decode cX7_home 144 = .ok (.iconst 1, 1) := by decide +kernel
theorem dX7_home_145 : decode cX7_home 145 = .ok (.iadd, 1) := by decide +kernel
theorem dX7_home_146 : decode cX7_home 146 = .ok (.putfield 114, 3) := by decide +kernel
theorem dX7_home_149 : decode cX7_home 149 = .ok (.iload_n 3, 1) := by decide +kernel
theorem dX7_home_150 : decode cX7_home 150 = .ok (.ireturn, 1) := by decide +kernel
theorem dX7_isFlag_0 : decode cX7_isFlag 0 = .ok (.aload_n 0, 1) := by decide +kernel
theorem dX7_isFlag_1 : decode cX7_isFlag 1 = .ok (.getfield 50, 3) := by decide +kernel
theorem dX7_isFlag_4 : decode cX7_isFlag 4 = .ok (.sipush 131, 3) := by decide +kernel
theorem dX7_isFlag_7 : decode cX7_isFlag 7 = .ok (.if_icmp .eq 33, 3) := by decide +kernel
theorem dX7_isFlag_10 : decode cX7_isFlag 10 = .ok (.aload_n 0, 1) := by decide +kernel
theorem dX7_isFlag_11 : decode cX7_isFlag 11 = .ok (.getfield 50, 3) := by decide +kernel
theorem dX7_isFlag_14 : decode cX7_isFlag 14 = .ok (.sipush 138, 3) := by decide +kernel
theorem dX7_isFlag_17 : decode cX7_isFlag 17 = .ok (.if_icmp .eq 23, 3) := by decide +kernel
theorem dX7_isFlag_20 : decode cX7_isFlag 20 = .ok (.aload_n 0, 1) := by decide +kernel
theorem dX7_isFlag_21 : decode cX7_isFlag 21 = .ok (.getfield 50, 3) := by decide +kernel
theorem dX7_isFlag_24 : decode cX7_isFlag 24 = .ok (.sipush 139, 3) := by decide +kernel
theorem dX7_isFlag_27 : decode cX7_isFlag 27 = .ok (.if_icmp .eq 13, 3) := by decide +kernel
theorem dX7_isFlag_30 : decode cX7_isFlag 30 = .ok (.aload_n 0, 1) := by decide +kernel
theorem dX7_isFlag_31 : decode cX7_isFlag 31 = .ok (.getfield 50, 3) := by decide +kernel
theorem dX7_isFlag_34 : decode cX7_isFlag 34 = .ok (.sipush 140, 3) := by decide +kernel
theorem dX7_isFlag_37 : decode cX7_isFlag 37 = .ok (.if_icmp .ne 7, 3) := by decide +kernel
theorem dX7_isFlag_40 : decode cX7_isFlag 40 = .ok (.iconst 1, 1) := by decide +kernel
theorem dX7_isFlag_41 : decode cX7_isFlag 41 = .ok (.goto 4, 3) := by decide +kernel
theorem dX7_isFlag_44 : decode cX7_isFlag 44 = .ok (.iconst 0, 1) := by decide +kernel
theorem dX7_isFlag_45 : decode cX7_isFlag 45 = .ok (.ireturn, 1) := by decide +kernel
theorem dX7_flag_0 : decode cX7_flag 0 = .ok (.aload_n 0, 1) := by decide +kernel
theorem dX7_flag_1 : decode cX7_flag 1 = .ok (.getfield 50, 3) := by decide +kernel
theorem dX7_flag_4 : decode cX7_flag 4 = .ok (.istore_n 3, 1) := by decide +kernel
theorem dX7_flag_5 : decode cX7_flag 5 = .ok (.aload_n 0, 1) := by decide +kernel
theorem dX7_flag_6 : decode cX7_flag 6 = .ok (.invokevirtual 43, 3) := by decide +kernel
theorem dX7_flag_9 : decode cX7_flag 9 = .ok (.iload_n 3, 1) := by decide +kernel
theorem dX7_flag_10 : decode cX7_flag 10 = .ok (.sipush 140, 3) := by decide +kernel
theorem dX7_flag_13 : decode cX7_flag 13 = .ok (.if_icmp .ne 12, 3) := by decide +kernel
theorem dX7_flag_16 : decode cX7_flag 16 = .ok (.aload_n 1, 1) := by decide +kernel
theorem dX7_flag_17 : decode cX7_flag 17 = .ok (.getfield 131, 3) := by decide +kernel
theorem dX7_flag_20 : decode cX7_flag 20 = .ok (.iload_n 2, 1) := by decide +kernel
theorem dX7_flag_21 : decode cX7_flag 21 = .ok (.iconst 1, 1) := by decide +kernel
theorem dX7_flag_22 : decode cX7_flag 22 = .ok (.iastore, 1) := by decide +kernel
theorem dX7_flag_23 : decode cX7_flag 23 = .ok (.iconst 1, 1) := by decide +kernel
theorem dX7_flag_24 : decode cX7_flag 24 = .ok (.ireturn, 1) := by decide +kernel
theorem dX7_flag_25 : decode cX7_flag 25 = .ok (.aload_n 0, 1) := by decide +kernel
theorem dX7_flag_26 : decode cX7_flag 26 = .ok (.iload_n 3, 1) := by decide +kernel
theorem dX7_flag_27 : decode cX7_flag 27 = .ok (.sipush 139, 3) := by decide +kernel
theorem dX7_flag_30 : decode cX7_flag 30 = .ok (.if_icmp .ne 8, 3) := by decide +kernel
theorem dX7_flag_33 : decode cX7_flag 33 = .ok (.bipush 20, 2) := by decide +kernel
theorem dX7_flag_35 : decode cX7_flag 35 = .ok (.goto 6, 3) := by decide +kernel
theorem dX7_flag_38 : decode cX7_flag 38 = .ok (.sipush 999, 3) := by decide +kernel
theorem dX7_flag_41 : decode cX7_flag 41 = .ok (.invokevirtual 83, 3) := by decide +kernel
theorem dX7_flag_44 : decode cX7_flag 44 = .ok (.istore 4, 2) := by decide +kernel
theorem dX7_flag_46 : decode cX7_flag 46 = .ok (.iload_n 3, 1) := by decide +kernel
theorem dX7_flag_47 : decode cX7_flag 47 = .ok (.sipush 131, 3) := by decide +kernel
theorem dX7_flag_50 : decode cX7_flag 50 = .ok (.if_icmp .ne 10, 3) := by decide +kernel
theorem dX7_flag_53 : decode cX7_flag 53 = .ok (.aload_n 1, 1) := by decide +kernel
theorem dX7_flag_54 : decode cX7_flag 54 = .ok (.getfield 134, 3) := by decide +kernel
theorem dX7_flag_57 : decode cX7_flag 57 = .ok (.goto 21, 3) := by decide +kernel
theorem dX7_flag_60 : decode cX7_flag 60 = .ok (.iload_n 3, 1) := by decide +kernel
theorem dX7_flag_61 : decode cX7_flag 61 = .ok (.sipush 138, 3) := by decide +kernel
theorem dX7_flag_64 : decode cX7_flag 64 = .ok (.if_icmp .ne 10, 3) := by decide +kernel
theorem dX7_flag_67 : decode cX7_flag 67 = .ok (.aload_n 1, 1) := by decide +kernel
theorem dX7_flag_68 : decode cX7_flag 68 = .ok (.getfield 137, 3) := by decide +kernel
theorem dX7_flag_71 : decode cX7_flag 71 = .ok (.goto 7, 3) := by decide +kernel
theorem dX7_flag_74 : decode cX7_flag 74 = .ok (.aload_n 1, 1) := by decide +kernel
theorem dX7_flag_75 : decode cX7_flag 75 = .ok (.getfield 140, 3) := by decide +kernel
theorem dX7_flag_78 : decode cX7_flag 78 = .ok (.astore 5, 2) := by decide +kernel
theorem dX7_flag_80 : decode cX7_flag 80 = .ok (.aload 5, 2) := by decide +kernel
theorem dX7_flag_82 : decode cX7_flag 82 = .ok (.iload_n 2, 1) := by decide +kernel
theorem dX7_flag_83 : decode cX7_flag 83 = .ok (.iload 4, 2) := by decide +kernel
theorem dX7_flag_85 : decode cX7_flag 85 = .ok (.iastore, 1) := by decide +kernel
theorem dX7_flag_86 : decode cX7_flag 86 = .ok (.iload 4, 2) := by decide +kernel
theorem dX7_flag_88 : decode cX7_flag 88 = .ok (.iconst (-1), 1) := by decide +kernel
theorem dX7_flag_89 : decode cX7_flag 89 = .ok (.if_icmp .eq 7, 3) := by decide +kernel
theorem dX7_flag_92 : decode cX7_flag 92 = .ok (.iconst 1, 1) := by decide +kernel
theorem dX7_flag_93 : decode cX7_flag 93 = .ok (.goto 4, 3) := by decide +kernel
theorem dX7_flag_96 : decode cX7_flag 96 = .ok (.iconst 0, 1) := by decide +kernel
theorem dX7_flag_97 : decode cX7_flag 97 = .ok (.ireturn, 1) := by decide +kernel
theorem dX7_beginLaw_0 : decode cX7_beginLaw 0 = .ok (.aload_n 0, 1) := by decide +kernel
theorem dX7_beginLaw_1 : decode cX7_beginLaw 1 = .ok (.iload_n 1, 1) := by decide +kernel
theorem dX7_beginLaw_2 : decode cX7_beginLaw 2 = .ok (.putfield 143, 3) := by decide +kernel
theorem dX7_beginLaw_5 : decode cX7_beginLaw 5 = .ok (.aload_n 0, 1) := by decide +kernel
theorem dX7_beginLaw_6 : decode cX7_beginLaw 6 = .ok (.iconst 0, 1) := by decide +kernel
theorem dX7_beginLaw_7 : decode cX7_beginLaw 7 = .ok (.putfield 146, 3) := by decide +kernel
theorem dX7_beginLaw_10 : decode cX7_beginLaw 10 = .ok (.aload_n 0, 1) := by decide +kernel
theorem dX7_beginLaw_11 : decode cX7_beginLaw 11 = .ok (.invokevirtual 43, 3) := by decide +kernel
theorem dX7_beginLaw_14 : decode cX7_beginLaw 14 = .ok (.aload_n 0, 1) := by decide +kernel
theorem dX7_beginLaw_15 : decode cX7_beginLaw 15 = .ok (.bipush 58, 2) := by decide +kernel
theorem dX7_beginLaw_17 : decode cX7_beginLaw 17 = .ok (.invokevirtual 46, 3) := by decide +kernel
theorem dX7_beginLaw_20 : decode cX7_beginLaw 20 = .ok (.ireturn, 1) := by decide +kernel
theorem dX7_keepLaw_0 : decode cX7_keepLaw 0 = .ok (.aload_n 0, 1) := by decide +kernel
theorem dX7_keepLaw_1 : decode cX7_keepLaw 1 = .ok (.getfield 25, 3) := by decide +kernel
theorem dX7_keepLaw_4 : decode cX7_keepLaw 4 = .ok (.aload_n 0, 1) := by decide +kernel
theorem dX7_keepLaw_5 : decode cX7_keepLaw 5 = .ok (.getfield 146, 3) := by decide +kernel
theorem dX7_keepLaw_8 : decode cX7_keepLaw 8 = .ok (.iconst 0, 1) := by decide +kernel
theorem dX7_keepLaw_9 : decode cX7_keepLaw 9 = .ok (.invokestatic 149, 3) := by decide +kernel
theorem dX7_keepLaw_12 : decode cX7_keepLaw 12 = .ok (.invokestatic 155, 3) := by decide +kernel
theorem dX7_keepLaw_15 : decode cX7_keepLaw 15 = .ok (.astore_n 2, 1) := by decide +kernel
theorem dX7_keepLaw_16 : decode cX7_keepLaw 16 = .ok (.iload_n 1, 1) := by decide +kernel
theorem dX7_keepLaw_17 : decode cX7_keepLaw 17 = .ok (.sipush 141, 3) := by decide +kernel
theorem dX7_keepLaw_20 : decode cX7_keepLaw 20 = .ok (.if_icmp .ne 14, 3) := by decide +kernel
theorem dX7_keepLaw_23 : decode cX7_keepLaw 23 = .ok (.aload_n 0, 1) := by decide +kernel
theorem dX7_keepLaw_24 : decode cX7_keepLaw 24 = .ok (.getfield 12, 3) := by decide +kernel
theorem dX7_keepLaw_27 : decode cX7_keepLaw 27 = .ok (.aload_n 2, 1) := by decide +kernel
theorem dX7_keepLaw_28 : decode cX7_keepLaw 28 = .ok (.putfield 161, 3) := by decide +kernel
theorem dX7_keepLaw_31 : decode cX7_keepLaw 31 = .ok (.goto 29, 3) := by decide +kernel
theorem dX7_keepLaw_34 : decode cX7_keepLaw 34 = .ok (.iload_n 1, 1) := by decide +kernel
theorem dX7_keepLaw_35 : decode cX7_keepLaw 35 = .ok (.sipush 142, 3) := by decide +kernel
theorem dX7_keepLaw_38 : decode cX7_keepLaw 38 = .ok (.if_icmp .ne 14, 3) := by decide +kernel
theorem dX7_keepLaw_41 : decode cX7_keepLaw 41 = .ok (.aload_n 0, 1) := by decide +kernel
theorem dX7_keepLaw_42 : decode cX7_keepLaw 42 = .ok (.getfield 12, 3) := by decide +kernel
theorem dX7_keepLaw_45 : decode cX7_keepLaw 45 = .ok (.aload_n 2, 1) := by decide +kernel
theorem dX7_keepLaw_46 : decode cX7_keepLaw 46 = .ok (.putfield 164, 3) := by decide +kernel
theorem dX7_keepLaw_49 : decode cX7_keepLaw 49 = .ok (.goto 11, 3) := by decide +kernel
theorem dX7_keepLaw_52 : decode cX7_keepLaw 52 = .ok (.aload_n 0, 1) := by decide +kernel
theorem dX7_keepLaw_53 : decode cX7_keepLaw 53 = .ok (.getfield 12, 3) := by decide +kernel
theorem dX7_keepLaw_56 : decode cX7_keepLaw 56 = .ok (.aload_n 2, 1) := by decide +kernel
theorem dX7_keepLaw_57 : decode cX7_keepLaw 57 = .ok (.putfield 167, 3) := by decide +kernel
theorem dX7_keepLaw_60 : decode cX7_keepLaw 60 = .ok (.iconst 1, 1) := by decide +kernel
theorem dX7_keepLaw_61 : decode cX7_keepLaw 61 = .ok (.ireturn, 1) := by decide +kernel
theorem dX7_emit_0 : decode cX7_emit 0 = .ok (.aload_n 0, 1) := by decide +kernel
theorem dX7_emit_1 : decode cX7_emit 1 = .ok (.getfield 146, 3) := by decide +kernel
theorem dX7_emit_4 : decode cX7_emit 4 = .ok (.ifCond .lt 33, 3) := by decide +kernel
theorem dX7_emit_7 : decode cX7_emit 7 = .ok (.aload_n 0, 1) := by decide +kernel
theorem dX7_emit_8 : decode cX7_emit 8 = .ok (.getfield 146, 3) := by decide +kernel
theorem dX7_emit_11 : decode cX7_emit 11 = .ok (.sipush 900, 3) := by decide +kernel
theorem dX7_emit_14 : decode cX7_emit 14 = .ok (.if_icmp .ge 23, 3) := by decide +kernel
theorem dX7_emit_17 : decode cX7_emit 17 = .ok (.aload_n 0, 1) := by decide +kernel
theorem dX7_emit_18 : decode cX7_emit 18 = .ok (.getfield 25, 3) := by decide +kernel
theorem dX7_emit_21 : decode cX7_emit 21 = .ok (.aload_n 0, 1) := by decide +kernel
theorem dX7_emit_22 : decode cX7_emit 22 = .ok (.getfield 146, 3) := by decide +kernel
theorem dX7_emit_25 : decode cX7_emit 25 = .ok (.iload_n 1, 1) := by decide +kernel
theorem dX7_emit_26 : decode cX7_emit 26 = .ok (.iastore, 1) := by decide +kernel
theorem dX7_emit_27 : decode cX7_emit 27 = .ok (.aload_n 0, 1) := by decide +kernel
theorem dX7_emit_28 : decode cX7_emit 28 = .ok (.dup, 1) := by decide +kernel
theorem dX7_emit_29 : decode cX7_emit 29 = .ok (.getfield 146, 3) := by decide +kernel
theorem dX7_emit_32 : decode cX7_emit 32 = .ok (.iconst 1, 1) := by decide +kernel
theorem dX7_emit_33 : decode cX7_emit 33 = .ok (.iadd, 1) := by decide +kernel
theorem dX7_emit_34 : decode cX7_emit 34 = .ok (.putfield 146, 3) := by decide +kernel
theorem dX7_emit_37 : decode cX7_emit 37 = .ok (.return_, 1) := by decide +kernel
theorem dX7_truth_0 : decode cX7_truth 0 = .ok (.aload_n 0, 1) := by decide +kernel
theorem dX7_truth_1 : decode cX7_truth 1 = .ok (.iload_n 1, 1) := by decide +kernel
theorem dX7_truth_2 : decode cX7_truth 2 = .ok (.invokevirtual 170, 3) := by decide +kernel
theorem dX7_truth_5 : decode cX7_truth 5 = .ok (.istore_n 2, 1) := by decide +kernel
theorem dX7_truth_6 : decode cX7_truth 6 = .ok (.iconst 0, 1) := by decide +kernel
theorem dX7_truth_7 : decode cX7_truth 7 = .ok (.istore_n 3, 1) := by decide +kernel
theorem dX7_truth_8 : decode cX7_truth 8 = .ok (.iload_n 3, 1) := by decide +kernel
theorem dX7_truth_9 : decode cX7_truth 9 = .ok (.sipush 900, 3) := by decide +kernel
theorem dX7_truth_12 : decode cX7_truth 12 = .ok (.if_icmp .ge 40, 3) := by decide +kernel
theorem dX7_truth_15 : decode cX7_truth 15 = .ok (.iload_n 2, 1) := by decide +kernel
theorem dX7_truth_16 : decode cX7_truth 16 = .ok (.ifCond .eq 36, 3) := by decide +kernel
theorem dX7_truth_19 : decode cX7_truth 19 = .ok (.aload_n 0, 1) := by decide +kernel
theorem dX7_truth_20 : decode cX7_truth 20 = .ok (.getfield 50, 3) := by decide +kernel
theorem dX7_truth_23 : decode cX7_truth 23 = .ok (.sipush 147, 3) := by decide +kernel
theorem dX7_truth_26 : decode cX7_truth 26 = .ok (.if_icmp .ne 26, 3) := by decide +kernel
theorem dX7_truth_29 : decode cX7_truth 29 = .ok (.aload_n 0, 1) := by decide +kernel
theorem dX7_truth_30 : decode cX7_truth 30 = .ok (.invokevirtual 43, 3) := by decide +kernel
theorem dX7_truth_33 : decode cX7_truth 33 = .ok (.aload_n 0, 1) := by decide +kernel
theorem dX7_truth_34 : decode cX7_truth 34 = .ok (.iload_n 1, 1) := by decide +kernel
theorem dX7_truth_35 : decode cX7_truth 35 = .ok (.invokevirtual 170, 3) := by decide +kernel
theorem dX7_truth_38 : decode cX7_truth 38 = .ok (.istore_n 2, 1) := by decide +kernel
theorem dX7_truth_39 : decode cX7_truth 39 = .ok (.aload_n 0, 1) := by decide +kernel
theorem dX7_truth_40 : decode cX7_truth 40 = .ok (.sipush 1147, 3) := by decide +kernel
theorem dX7_truth_43 : decode cX7_truth 43 = .ok (.invokevirtual 173, 3) := by decide +kernel
theorem dX7_truth_46 : decode cX7_truth 46 = .ok (.iinc 3 1, 3) := by decide +kernel
theorem dX7_truth_49 : decode cX7_truth 49 = .ok (.goto (-41), 3) := by decide +kernel
theorem dX7_truth_52 : decode cX7_truth 52 = .ok (.iload_n 2, 1) := by decide +kernel
theorem dX7_truth_53 : decode cX7_truth 53 = .ok (.ireturn, 1) := by decide +kernel
theorem dX7_both_0 : decode cX7_both 0 = .ok (.aload_n 0, 1) := by decide +kernel
theorem dX7_both_1 : decode cX7_both 1 = .ok (.iload_n 1, 1) := by decide +kernel
theorem dX7_both_2 : decode cX7_both 2 = .ok (.invokevirtual 177, 3) := by decide +kernel
theorem dX7_both_5 : decode cX7_both 5 = .ok (.istore_n 2, 1) := by decide +kernel
theorem dX7_both_6 : decode cX7_both 6 = .ok (.iconst 0, 1) := by decide +kernel
theorem dX7_both_7 : decode cX7_both 7 = .ok (.istore_n 3, 1) := by decide +kernel
theorem dX7_both_8 : decode cX7_both 8 = .ok (.iload_n 3, 1) := by decide +kernel
theorem dX7_both_9 : decode cX7_both 9 = .ok (.sipush 900, 3) := by decide +kernel
theorem dX7_both_12 : decode cX7_both 12 = .ok (.if_icmp .ge 40, 3) := by decide +kernel
theorem dX7_both_15 : decode cX7_both 15 = .ok (.iload_n 2, 1) := by decide +kernel
theorem dX7_both_16 : decode cX7_both 16 = .ok (.ifCond .eq 36, 3) := by decide +kernel
theorem dX7_both_19 : decode cX7_both 19 = .ok (.aload_n 0, 1) := by decide +kernel
theorem dX7_both_20 : decode cX7_both 20 = .ok (.getfield 50, 3) := by decide +kernel
theorem dX7_both_23 : decode cX7_both 23 = .ok (.sipush 146, 3) := by decide +kernel
theorem dX7_both_26 : decode cX7_both 26 = .ok (.if_icmp .ne 26, 3) := by decide +kernel
theorem dX7_both_29 : decode cX7_both 29 = .ok (.aload_n 0, 1) := by decide +kernel
theorem dX7_both_30 : decode cX7_both 30 = .ok (.invokevirtual 43, 3) := by decide +kernel
theorem dX7_both_33 : decode cX7_both 33 = .ok (.aload_n 0, 1) := by decide +kernel
theorem dX7_both_34 : decode cX7_both 34 = .ok (.iload_n 1, 1) := by decide +kernel
theorem dX7_both_35 : decode cX7_both 35 = .ok (.invokevirtual 177, 3) := by decide +kernel
theorem dX7_both_38 : decode cX7_both 38 = .ok (.istore_n 2, 1) := by decide +kernel
theorem dX7_both_39 : decode cX7_both 39 = .ok (.aload_n 0, 1) := by decide +kernel
theorem dX7_both_40 : decode cX7_both 40 = .ok (.sipush 1146, 3) := by decide +kernel
theorem dX7_both_43 : decode cX7_both 43 = .ok (.invokevirtual 173, 3) := by decide +kernel
theorem dX7_both_46 : decode cX7_both 46 = .ok (.iinc 3 1, 3) := by decide +kernel
theorem dX7_both_49 : decode cX7_both 49 = .ok (.goto (-41), 3) := by decide +kernel
theorem dX7_both_52 : decode cX7_both 52 = .ok (.iload_n 2, 1) := by decide +kernel
theorem dX7_both_53 : decode cX7_both 53 = .ok (.ireturn, 1) := by decide +kernel
theorem dX7_unit_0 : decode cX7_unit 0 = .ok (.iload_n 1, 1) := by decide +kernel
theorem dX7_unit_1 : decode cX7_unit 1 = .ok (.istore_n 2, 1) := by decide +kernel
theorem dX7_unit_2 : decode cX7_unit 2 = .ok (.iconst 0, 1) := by decide +kernel
theorem dX7_unit_3 : decode cX7_unit 3 = .ok (.istore_n 3, 1) := by decide +kernel
theorem dX7_unit_4 : decode cX7_unit 4 = .ok (.iload_n 3, 1) := by decide +kernel
theorem dX7_unit_5 : decode cX7_unit 5 = .ok (.bipush 6, 2) := by decide +kernel
theorem dX7_unit_7 : decode cX7_unit 7 = .ok (.if_icmp .gt 38, 3) := by decide +kernel
theorem dX7_unit_10 : decode cX7_unit 10 = .ok (.aload_n 0, 1) := by decide +kernel
theorem dX7_unit_11 : decode cX7_unit 11 = .ok (.getfield 50, 3) := by decide +kernel
theorem dX7_unit_14 : decode cX7_unit 14 = .ok (.sipush 145, 3) := by decide +kernel
theorem dX7_unit_17 : decode cX7_unit 17 = .ok (.if_icmp .ne 28, 3) := by decide +kernel
theorem dX7_unit_20 : decode cX7_unit 20 = .ok (.iload_n 2, 1) := by decide +kernel
theorem dX7_unit_21 : decode cX7_unit 21 = .ok (.bipush 6, 2) := by decide +kernel
theorem dX7_unit_23 : decode cX7_unit 23 = .ok (.if_icmp .lt 9, 3) := by decide +kernel
theorem dX7_unit_26 : decode cX7_unit 26 = .ok (.aload_n 0, 1) := by decide +kernel
theorem dX7_unit_27 : decode cX7_unit 27 = .ok (.iconst 4, 1) := by decide +kernel
theorem dX7_unit_28 : decode cX7_unit 28 = .ok (.invokevirtual 95, 3) := by decide +kernel
theorem dX7_unit_31 : decode cX7_unit 31 = .ok (.ireturn, 1) := by decide +kernel
theorem dX7_unit_32 : decode cX7_unit 32 = .ok (.aload_n 0, 1) := by decide +kernel
theorem dX7_unit_33 : decode cX7_unit 33 = .ok (.invokevirtual 43, 3) := by decide +kernel
theorem dX7_unit_36 : decode cX7_unit 36 = .ok (.iinc 2 1, 3) := by decide +kernel
theorem dX7_unit_39 : decode cX7_unit 39 = .ok (.iinc 3 1, 3) := by decide +kernel
theorem dX7_unit_42 : decode cX7_unit 42 = .ok (.goto (-38), 3) := by decide +kernel
theorem dX7_unit_45 : decode cX7_unit 45 = .ok (.aload_n 0, 1) := by decide +kernel
theorem dX7_unit_46 : decode cX7_unit 46 = .ok (.getfield 50, 3) := by decide +kernel
theorem dX7_unit_49 : decode cX7_unit 49 = .ok (.bipush 91, 2) := by decide +kernel
theorem dX7_unit_51 : decode cX7_unit 51 = .ok (.if_icmp .ne 11, 3) := by decide +kernel
theorem dX7_unit_54 : decode cX7_unit 54 = .ok (.aload_n 0, 1) := by decide +kernel
theorem dX7_unit_55 : decode cX7_unit 55 = .ok (.iload_n 2, 1) := by decide +kernel
theorem dX7_unit_56 : decode cX7_unit 56 = .ok (.invokevirtual 180, 3) := by decide +kernel
theorem dX7_unit_59 : decode cX7_unit 59 = .ok (.goto 8, 3) := by decide +kernel
theorem dX7_unit_62 : decode cX7_unit 62 = .ok (.aload_n 0, 1) := by decide +kernel
theorem dX7_unit_63 : decode cX7_unit 63 = .ok (.iload_n 2, 1) := by decide +kernel
theorem dX7_unit_64 : decode cX7_unit 64 = .ok (.invokevirtual 183, 3) := by decide +kernel
theorem dX7_unit_67 : decode cX7_unit 67 = .ok (.istore_n 3, 1) := by decide +kernel
theorem dX7_unit_68 : decode cX7_unit 68 = .ok (.iload_n 2, 1) := by decide +kernel
theorem dX7_unit_69 : decode cX7_unit 69 = .ok (.iload_n 1, 1) := by decide +kernel
theorem dX7_unit_70 : decode cX7_unit 70 = .ok (.isub, 1) := by decide +kernel
theorem dX7_unit_71 : decode cX7_unit 71 = .ok (.iconst 1, 1) := by decide +kernel
theorem dX7_unit_72 : decode cX7_unit 72 = .ok (.iand, 1) := by decide +kernel
theorem dX7_unit_73 : decode cX7_unit 73 = .ok (.iconst 1, 1) := by decide +kernel
theorem dX7_unit_74 : decode cX7_unit 74 = .ok (.if_icmp .ne 10, 3) := by decide +kernel
theorem dX7_unit_77 : decode cX7_unit 77 = .ok (.aload_n 0, 1) := by decide +kernel
theorem dX7_unit_78 : decode cX7_unit 78 = .ok (.sipush 1145, 3) := by decide +kernel
theorem dX7_unit_81 : decode cX7_unit 81 = .ok (.invokevirtual 173, 3) := by decide +kernel
theorem dX7_unit_84 : decode cX7_unit 84 = .ok (.iload_n 3, 1) := by decide +kernel
theorem dX7_unit_85 : decode cX7_unit 85 = .ok (.ireturn, 1) := by decide +kernel
theorem dX7_bracket_0 : decode cX7_bracket 0 = .ok (.iload_n 1, 1) := by decide +kernel
theorem dX7_bracket_1 : decode cX7_bracket 1 = .ok (.bipush 6, 2) := by decide +kernel
theorem dX7_bracket_3 : decode cX7_bracket 3 = .ok (.if_icmp .lt 9, 3) := by decide +kernel
theorem dX7_bracket_6 : decode cX7_bracket 6 = .ok (.aload_n 0, 1) := by decide +kernel
theorem dX7_bracket_7 : decode cX7_bracket 7 = .ok (.iconst 4, 1) := by decide +kernel
theorem dX7_bracket_8 : decode cX7_bracket 8 = .ok (.invokevirtual 95, 3) := by decide +kernel
theorem dX7_bracket_11 : decode cX7_bracket 11 = .ok (.ireturn, 1) := by decide +kernel
theorem dX7_bracket_12 : decode cX7_bracket 12 = .ok (.aload_n 0, 1) := by decide +kernel
theorem dX7_bracket_13 : decode cX7_bracket 13 = .ok (.invokevirtual 43, 3) := by decide +kernel
theorem dX7_bracket_16 : decode cX7_bracket 16 = .ok (.aload_n 0, 1) := by decide +kernel
theorem dX7_bracket_17 : decode cX7_bracket 17 = .ok (.iload_n 1, 1) := by decide +kernel
theorem dX7_bracket_18 : decode cX7_bracket 18 = .ok (.iconst 1, 1) := by decide +kernel
theorem dX7_bracket_19 : decode cX7_bracket 19 = .ok (.iadd, 1) := by decide +kernel
theorem dX7_bracket_20 : decode cX7_bracket 20 = .ok (.invokevirtual 80, 3) := by decide +kernel
theorem dX7_bracket_23 : decode cX7_bracket 23 = .ok (.ifCond .eq 16, 3) := by decide +kernel
theorem dX7_bracket_26 : decode cX7_bracket 26 = .ok (.aload_n 0, 1) := by decide +kernel
theorem dX7_bracket_27 : decode cX7_bracket 27 = .ok (.bipush 93, 2) := by decide +kernel
theorem dX7_bracket_29 : decode cX7_bracket 29 = .ok (.invokevirtual 46, 3) := by decide +kernel
theorem dX7_bracket_32 : decode cX7_bracket 32 = .ok (.ifCond .eq 7, 3) := by decide +kernel
theorem dX7_bracket_35 : decode cX7_bracket 35 = .ok (.iconst 1, 1) := by decide +kernel
theorem dX7_bracket_36 : decode cX7_bracket 36 = .ok (.goto 4, 3) := by decide +kernel
theorem dX7_bracket_39 : decode cX7_bracket 39 = .ok (.iconst 0, 1) := by decide +kernel
theorem dX7_bracket_40 : decode cX7_bracket 40 = .ok (.ireturn, 1) := by decide +kernel
theorem dX7_comparison_0 : decode cX7_comparison 0 = .ok (.aload_n 0, 1) := by decide +kernel
theorem dX7_comparison_1 : decode cX7_comparison 1 = .ok (.iload_n 1, 1) := by decide +kernel
theorem dX7_comparison_2 : decode cX7_comparison 2 = .ok (.invokevirtual 74, 3) := by decide +kernel
theorem dX7_comparison_5 : decode cX7_comparison 5 = .ok (.ifCond .ne 5, 3) := by decide +kernel
theorem dX7_comparison_8 : decode cX7_comparison 8 = .ok (.iconst 0, 1) := by decide +kernel
theorem dX7_comparison_9 : decode cX7_comparison 9 = .ok (.ireturn, 1) := by decide +kernel
theorem dX7_comparison_10 : decode cX7_comparison 10 = .ok (.aload_n 0, 1) := by decide +kernel
theorem dX7_comparison_11 : decode cX7_comparison 11 = .ok (.getfield 50, 3) := by decide +kernel
theorem dX7_comparison_14 : decode cX7_comparison 14 = .ok (.istore_n 2, 1) := by decide +kernel
theorem dX7_comparison_15 : decode cX7_comparison 15 = .ok (.iload_n 2, 1) := by decide +kernel
theorem dX7_comparison_16 : decode cX7_comparison 16 = .ok (.bipush 61, 2) := by decide +kernel
theorem dX7_comparison_18 : decode cX7_comparison 18 = .ok (.if_icmp .eq 21, 3) := by decide +kernel
theorem dX7_comparison_21 : decode cX7_comparison 21 = .ok (.iload_n 2, 1) := by decide +kernel
theorem dX7_comparison_22 : decode cX7_comparison 22 = .ok (.bipush 60, 2) := by decide +kernel
theorem dX7_comparison_24 : decode cX7_comparison 24 = .ok (.if_icmp .eq 15, 3) := by decide +kernel
theorem dX7_comparison_27 : decode cX7_comparison 27 = .ok (.iload_n 2, 1) := by decide +kernel
theorem dX7_comparison_28 : decode cX7_comparison 28 = .ok (.bipush 62, 2) := by decide +kernel
theorem dX7_comparison_30 : decode cX7_comparison 30 = .ok (.if_icmp .eq 9, 3) := by decide +kernel
theorem dX7_comparison_33 : decode cX7_comparison 33 = .ok (.aload_n 0, 1) := by decide +kernel
theorem dX7_comparison_34 : decode cX7_comparison 34 = .ok (.iconst 2, 1) := by decide +kernel
theorem dX7_comparison_35 : decode cX7_comparison 35 = .ok (.invokevirtual 95, 3) := by decide +kernel
theorem dX7_comparison_38 : decode cX7_comparison 38 = .ok (.ireturn, 1) := by decide +kernel
theorem dX7_comparison_39 : decode cX7_comparison 39 = .ok (.aload_n 0, 1) := by decide +kernel
theorem dX7_comparison_40 : decode cX7_comparison 40 = .ok (.invokevirtual 43, 3) := by decide +kernel
theorem dX7_comparison_43 : decode cX7_comparison 43 = .ok (.aload_n 0, 1) := by decide +kernel
theorem dX7_comparison_44 : decode cX7_comparison 44 = .ok (.iload_n 1, 1) := by decide +kernel
theorem dX7_comparison_45 : decode cX7_comparison 45 = .ok (.invokevirtual 74, 3) := by decide +kernel
theorem dX7_comparison_48 : decode cX7_comparison 48 = .ok (.istore_n 3, 1) := by decide +kernel
theorem dX7_comparison_49 : decode cX7_comparison 49 = .ok (.aload_n 0, 1) := by decide +kernel
theorem dX7_comparison_50 : decode cX7_comparison 50 = .ok (.sipush 1000, 3) := by decide +kernel
theorem dX7_comparison_53 : decode cX7_comparison 53 = .ok (.iload_n 2, 1) := by decide +kernel
theorem dX7_comparison_54 : decode cX7_comparison 54 = .ok (.iadd, 1) := by decide +kernel
theorem dX7_comparison_55 : decode cX7_comparison 55 = .ok (.invokevirtual 173, 3) := by decide +kernel
theorem dX7_comparison_58 : decode cX7_comparison 58 = .ok (.iload_n 3, 1) := by decide +kernel
theorem dX7_comparison_59 : decode cX7_comparison 59 = .ok (.ireturn, 1) := by decide +kernel
theorem dX7_sum_0 : decode cX7_sum 0 = .ok (.aload_n 0, 1) := by decide +kernel
theorem dX7_sum_1 : decode cX7_sum 1 = .ok (.iload_n 1, 1) := by decide +kernel
theorem dX7_sum_2 : decode cX7_sum 2 = .ok (.invokevirtual 186, 3) := by decide +kernel
theorem dX7_sum_5 : decode cX7_sum 5 = .ok (.istore_n 2, 1) := by decide +kernel
theorem dX7_sum_6 : decode cX7_sum 6 = .ok (.aload_n 0, 1) := by decide +kernel
theorem dX7_sum_7 : decode cX7_sum 7 = .ok (.getfield 50, 3) := by decide +kernel
theorem dX7_sum_10 : decode cX7_sum 10 = .ok (.istore_n 3, 1) := by decide +kernel
theorem dX7_sum_11 : decode cX7_sum 11 = .ok (.iconst 0, 1) := by decide +kernel
theorem dX7_sum_12 : decode cX7_sum 12 = .ok (.istore 4, 2) := by decide +kernel
theorem dX7_sum_14 : decode cX7_sum 14 = .ok (.iload 4, 2) := by decide +kernel
theorem dX7_sum_16 : decode cX7_sum 16 = .ok (.sipush 900, 3) := by decide +kernel
theorem dX7_sum_19 : decode cX7_sum 19 = .ok (.if_icmp .ge 49, 3) := by decide +kernel
theorem dX7_sum_22 : decode cX7_sum 22 = .ok (.iload_n 2, 1) := by decide +kernel
theorem dX7_sum_23 : decode cX7_sum 23 = .ok (.ifCond .eq 45, 3) := by decide +kernel
theorem dX7_sum_26 : decode cX7_sum 26 = .ok (.iload_n 3, 1) := by decide +kernel
theorem dX7_sum_27 : decode cX7_sum 27 = .ok (.bipush 43, 2) := by decide +kernel
theorem dX7_sum_29 : decode cX7_sum 29 = .ok (.if_icmp .eq 9, 3) := by decide +kernel
theorem dX7_sum_32 : decode cX7_sum 32 = .ok (.iload_n 3, 1) := by decide +kernel
theorem dX7_sum_33 : decode cX7_sum 33 = .ok (.bipush 45, 2) := by decide +kernel
theorem dX7_sum_35 : decode cX7_sum 35 = .ok (.if_icmp .ne 33, 3) := by decide +kernel
theorem dX7_sum_38 : decode cX7_sum 38 = .ok (.aload_n 0, 1) := by decide +kernel
theorem dX7_sum_39 : decode cX7_sum 39 = .ok (.invokevirtual 43, 3) := by decide +kernel
theorem dX7_sum_42 : decode cX7_sum 42 = .ok (.aload_n 0, 1) := by decide +kernel
theorem dX7_sum_43 : decode cX7_sum 43 = .ok (.iload_n 1, 1) := by decide +kernel
theorem dX7_sum_44 : decode cX7_sum 44 = .ok (.invokevirtual 186, 3) := by decide +kernel
theorem dX7_sum_47 : decode cX7_sum 47 = .ok (.istore_n 2, 1) := by decide +kernel
theorem dX7_sum_48 : decode cX7_sum 48 = .ok (.aload_n 0, 1) := by decide +kernel
theorem dX7_sum_49 : decode cX7_sum 49 = .ok (.sipush 1000, 3) := by decide +kernel
theorem dX7_sum_52 : decode cX7_sum 52 = .ok (.iload_n 3, 1) := by decide +kernel
theorem dX7_sum_53 : decode cX7_sum 53 = .ok (.iadd, 1) := by decide +kernel
theorem dX7_sum_54 : decode cX7_sum 54 = .ok (.invokevirtual 173, 3) := by decide +kernel
theorem dX7_sum_57 : decode cX7_sum 57 = .ok (.aload_n 0, 1) := by decide +kernel
theorem dX7_sum_58 : decode cX7_sum 58 = .ok (.getfield 50, 3) := by decide +kernel
theorem dX7_sum_61 : decode cX7_sum 61 = .ok (.istore_n 3, 1) := by decide +kernel
theorem dX7_sum_62 : decode cX7_sum 62 = .ok (.iinc 4 1, 3) := by decide +kernel
theorem dX7_sum_65 : decode cX7_sum 65 = .ok (.goto (-51), 3) := by decide +kernel
theorem dX7_sum_68 : decode cX7_sum 68 = .ok (.iload_n 2, 1) := by decide +kernel
theorem dX7_sum_69 : decode cX7_sum 69 = .ok (.ireturn, 1) := by decide +kernel
theorem dX7_term_0 : decode cX7_term 0 = .ok (.aload_n 0, 1) := by decide +kernel
theorem dX7_term_1 : decode cX7_term 1 = .ok (.iload_n 1, 1) := by decide +kernel
theorem dX7_term_2 : decode cX7_term 2 = .ok (.invokevirtual 189, 3) := by decide +kernel
theorem dX7_term_5 : decode cX7_term 5 = .ok (.istore_n 2, 1) := by decide +kernel
theorem dX7_term_6 : decode cX7_term 6 = .ok (.iconst 0, 1) := by decide +kernel
theorem dX7_term_7 : decode cX7_term 7 = .ok (.istore_n 3, 1) := by decide +kernel
theorem dX7_term_8 : decode cX7_term 8 = .ok (.iload_n 3, 1) := by decide +kernel
theorem dX7_term_9 : decode cX7_term 9 = .ok (.sipush 900, 3) := by decide +kernel
theorem dX7_term_12 : decode cX7_term 12 = .ok (.if_icmp .ge 39, 3) := by decide +kernel
theorem dX7_term_15 : decode cX7_term 15 = .ok (.iload_n 2, 1) := by decide +kernel
theorem dX7_term_16 : decode cX7_term 16 = .ok (.ifCond .eq 35, 3) := by decide +kernel
theorem dX7_term_19 : decode cX7_term 19 = .ok (.aload_n 0, 1) := by decide +kernel
theorem dX7_term_20 : decode cX7_term 20 = .ok (.getfield 50, 3) := by decide +kernel
theorem dX7_term_23 : decode cX7_term 23 = .ok (.bipush 42, 2) := by decide +kernel
theorem dX7_term_25 : decode cX7_term 25 = .ok (.if_icmp .ne 26, 3) := by decide +kernel
theorem dX7_term_28 : decode cX7_term 28 = .ok (.aload_n 0, 1) := by decide +kernel
theorem dX7_term_29 : decode cX7_term 29 = .ok (.invokevirtual 43, 3) := by decide +kernel
theorem dX7_term_32 : decode cX7_term 32 = .ok (.aload_n 0, 1) := by decide +kernel
theorem dX7_term_33 : decode cX7_term 33 = .ok (.iload_n 1, 1) := by decide +kernel
theorem dX7_term_34 : decode cX7_term 34 = .ok (.invokevirtual 189, 3) := by decide +kernel
theorem dX7_term_37 : decode cX7_term 37 = .ok (.istore_n 2, 1) := by decide +kernel
theorem dX7_term_38 : decode cX7_term 38 = .ok (.aload_n 0, 1) := by decide +kernel
theorem dX7_term_39 : decode cX7_term 39 = .ok (.sipush 1042, 3) := by decide +kernel
theorem dX7_term_42 : decode cX7_term 42 = .ok (.invokevirtual 173, 3) := by decide +kernel
theorem dX7_term_45 : decode cX7_term 45 = .ok (.iinc 3 1, 3) := by decide +kernel
theorem dX7_term_48 : decode cX7_term 48 = .ok (.goto (-40), 3) := by decide +kernel
theorem dX7_term_51 : decode cX7_term 51 = .ok (.iload_n 2, 1) := by decide +kernel
theorem dX7_term_52 : decode cX7_term 52 = .ok (.ireturn, 1) := by decide +kernel
theorem dX7_atom_0 : decode cX7_atom 0 = .ok (.aload_n 0, 1) := by decide +kernel
theorem dX7_atom_1 : decode cX7_atom 1 = .ok (.getfield 50, 3) := by decide +kernel
theorem dX7_atom_4 : decode cX7_atom 4 = .ok (.bipush 40, 2) := by decide +kernel
theorem dX7_atom_6 : decode cX7_atom 6 = .ok (.if_icmp .ne 9, 3) := by decide +kernel
theorem dX7_atom_9 : decode cX7_atom 9 = .ok (.aload_n 0, 1) := by decide +kernel
theorem dX7_atom_10 : decode cX7_atom 10 = .ok (.iload_n 1, 1) := by decide +kernel
theorem dX7_atom_11 : decode cX7_atom 11 = .ok (.invokevirtual 192, 3) := by decide +kernel
theorem dX7_atom_14 : decode cX7_atom 14 = .ok (.ireturn, 1) := by decide +kernel
theorem dX7_atom_15 : decode cX7_atom 15 = .ok (.aload_n 0, 1) := by decide +kernel
theorem dX7_atom_16 : decode cX7_atom 16 = .ok (.getfield 50, 3) := by decide +kernel
theorem dX7_atom_19 : decode cX7_atom 19 = .ok (.iconst 2, 1) := by decide +kernel
theorem dX7_atom_20 : decode cX7_atom 20 = .ok (.if_icmp .ne 14, 3) := by decide +kernel
theorem dX7_atom_23 : decode cX7_atom 23 = .ok (.aload_n 0, 1) := by decide +kernel
theorem dX7_atom_24 : decode cX7_atom 24 = .ok (.aload_n 0, 1) := by decide +kernel
theorem dX7_atom_25 : decode cX7_atom 25 = .ok (.invokevirtual 110, 3) := by decide +kernel
theorem dX7_atom_28 : decode cX7_atom 28 = .ok (.invokevirtual 173, 3) := by decide +kernel
theorem dX7_atom_31 : decode cX7_atom 31 = .ok (.goto 63, 3) := by decide +kernel
theorem dX7_atom_34 : decode cX7_atom 34 = .ok (.aload_n 0, 1) := by decide +kernel
theorem dX7_atom_35 : decode cX7_atom 35 = .ok (.getfield 50, 3) := by decide +kernel
theorem dX7_atom_38 : decode cX7_atom 38 = .ok (.sipush 128, 3) := by decide +kernel
theorem dX7_atom_41 : decode cX7_atom 41 = .ok (.if_icmp .lt 47, 3) := by decide +kernel
theorem dX7_atom_44 : decode cX7_atom 44 = .ok (.aload_n 0, 1) := by decide +kernel
theorem dX7_atom_45 : decode cX7_atom 45 = .ok (.getfield 50, 3) := by decide +kernel
theorem dX7_atom_48 : decode cX7_atom 48 = .ok (.sipush 134, 3) := by decide +kernel
theorem dX7_atom_51 : decode cX7_atom 51 = .ok (.if_icmp .gt 37, 3) := by decide +kernel
theorem dX7_atom_54 : decode cX7_atom 54 = .ok (.aload_n 0, 1) := by decide +kernel
theorem dX7_atom_55 : decode cX7_atom 55 = .ok (.getfield 143, 3) := by decide +kernel
theorem dX7_atom_58 : decode cX7_atom 58 = .ok (.aload_n 0, 1) := by decide +kernel
theorem dX7_atom_59 : decode cX7_atom 59 = .ok (.getfield 50, 3) := by decide +kernel
theorem dX7_atom_62 : decode cX7_atom 62 = .ok (.sipush 128, 3) := by decide +kernel
theorem dX7_atom_65 : decode cX7_atom 65 = .ok (.isub, 1) := by decide +kernel
theorem dX7_atom_66 : decode cX7_atom 66 = .ok (.ishr, 1) := by decide +kernel
theorem dX7_atom_67 : decode cX7_atom 67 = .ok (.iconst 1, 1) := by decide +kernel
theorem dX7_atom_68 : decode cX7_atom 68 = .ok (.iand, 1) := by decide +kernel
theorem dX7_atom_69 : decode cX7_atom 69 = .ok (.iconst 1, 1) := by decide +kernel
theorem dX7_atom_70 : decode cX7_atom 70 = .ok (.if_icmp .ne 18, 3) := by decide +kernel
theorem dX7_atom_73 : decode cX7_atom 73 = .ok (.aload_n 0, 1) := by decide +kernel
theorem dX7_atom_74 : decode cX7_atom 74 = .ok (.sipush 1000, 3) := by decide +kernel
theorem dX7_atom_77 : decode cX7_atom 77 = .ok (.aload_n 0, 1) := by decide +kernel
theorem dX7_atom_78 : decode cX7_atom 78 = .ok (.getfield 50, 3) := by decide +kernel
theorem dX7_atom_81 : decode cX7_atom 81 = .ok (.iadd, 1) := by decide +kernel
theorem dX7_atom_82 : decode cX7_atom 82 = .ok (.invokevirtual 173, 3) := by decide +kernel
theorem dX7_atom_85 : decode cX7_atom 85 = .ok (.goto 9, 3) := by decide +kernel
theorem dX7_atom_88 : decode cX7_atom 88 = .ok (.aload_n 0, 1) := by decide +kernel
theorem dX7_atom_89 : decode cX7_atom 89 = .ok (.iconst 2, 1) := by decide +kernel
theorem dX7_atom_90 : decode cX7_atom 90 = .ok (.invokevirtual 95, 3) := by decide +kernel
theorem dX7_atom_93 : decode cX7_atom 93 = .ok (.ireturn, 1) := by decide +kernel
theorem dX7_atom_94 : decode cX7_atom 94 = .ok (.aload_n 0, 1) := by decide +kernel
theorem dX7_atom_95 : decode cX7_atom 95 = .ok (.invokevirtual 43, 3) := by decide +kernel
theorem dX7_atom_98 : decode cX7_atom 98 = .ok (.iconst 1, 1) := by decide +kernel
theorem dX7_atom_99 : decode cX7_atom 99 = .ok (.ireturn, 1) := by decide +kernel
theorem dX7_parenthesis_0 : decode cX7_parenthesis 0 = .ok (.iload_n 1, 1) := by decide +kernel
theorem dX7_parenthesis_1 : decode cX7_parenthesis 1 = .ok (.bipush 6, 2) := by decide +kernel
theorem dX7_parenthesis_3 : decode cX7_parenthesis 3 = .ok (.if_icmp .lt 9, 3) := by decide +kernel
theorem dX7_parenthesis_6 : decode cX7_parenthesis 6 = .ok (.aload_n 0, 1) := by decide +kernel
theorem dX7_parenthesis_7 : decode cX7_parenthesis 7 = .ok (.iconst 4, 1) := by decide +kernel
theorem dX7_parenthesis_8 : decode cX7_parenthesis 8 = .ok (.invokevirtual 95, 3) := by decide +kernel
theorem dX7_parenthesis_11 : decode cX7_parenthesis 11 = .ok (.ireturn, 1) := by decide +kernel
theorem dX7_parenthesis_12 : decode cX7_parenthesis 12 = .ok (.aload_n 0, 1) := by decide +kernel
theorem dX7_parenthesis_13 : decode cX7_parenthesis 13 = .ok (.invokevirtual 43, 3) := by decide +kernel
theorem dX7_parenthesis_16 : decode cX7_parenthesis 16 = .ok (.aload_n 0, 1) := by decide +kernel
theorem dX7_parenthesis_17 : decode cX7_parenthesis 17 = .ok (.iload_n 1, 1) := by decide +kernel
theorem dX7_parenthesis_18 : decode cX7_parenthesis 18 = .ok (.iconst 1, 1) := by decide +kernel
theorem dX7_parenthesis_19 : decode cX7_parenthesis 19 = .ok (.iadd, 1) := by decide +kernel
theorem dX7_parenthesis_20 : decode cX7_parenthesis 20 = .ok (.invokevirtual 74, 3) := by decide +kernel
theorem dX7_parenthesis_23 : decode cX7_parenthesis 23 = .ok (.ifCond .eq 16, 3) := by decide +kernel
theorem dX7_parenthesis_26 : decode cX7_parenthesis 26 = .ok (.aload_n 0, 1) := by decide +kernel
theorem dX7_parenthesis_27 : decode cX7_parenthesis 27 = .ok (.bipush 41, 2) := by decide +kernel
theorem dX7_parenthesis_29 : decode cX7_parenthesis 29 = .ok (.invokevirtual 46, 3) := by decide +kernel
theorem dX7_parenthesis_32 : decode cX7_parenthesis 32 = .ok (.ifCond .eq 7, 3) := by decide +kernel
theorem dX7_parenthesis_35 : decode cX7_parenthesis 35 = .ok (.iconst 1, 1) := by decide +kernel
theorem dX7_parenthesis_36 : decode cX7_parenthesis 36 = .ok (.goto 4, 3) := by decide +kernel
theorem dX7_parenthesis_39 : decode cX7_parenthesis 39 = .ok (.iconst 0, 1) := by decide +kernel
theorem dX7_parenthesis_40 : decode cX7_parenthesis 40 = .ok (.ireturn, 1) := by decide +kernel
theorem dX8_init_0 : decode cX8_init 0 = .ok (.aload_n 0, 1) := by decide +kernel
theorem dX8_init_1 : decode cX8_init 1 = .ok (.invokespecial 3, 3) := by decide +kernel
theorem dX8_init_4 : decode cX8_init 4 = .ok (.aload_n 0, 1) := by decide +kernel
theorem dX8_init_5 : decode cX8_init 5 = .ok (.sipush 901, 3) := by decide +kernel
theorem dX8_init_8 : decode cX8_init 8 = .ok (.newarray .int, 2) := by decide +kernel
theorem dX8_init_10 : decode cX8_init 10 = .ok (.putfield 9, 3) := by decide +kernel
theorem dX8_init_13 : decode cX8_init 13 = .ok (.aload_n 0, 1) := by decide +kernel
theorem dX8_init_14 : decode cX8_init 14 = .ok (.sipush 901, 3) := by decide +kernel
theorem dX8_init_17 : decode cX8_init 17 = .ok (.newarray .int, 2) := by decide +kernel
theorem dX8_init_19 : decode cX8_init 19 = .ok (.putfield 15, 3) := by decide +kernel
theorem dX8_init_22 : decode cX8_init 22 = .ok (.aload_n 0, 1) := by decide +kernel
theorem dX8_init_23 : decode cX8_init 23 = .ok (.sipush 901, 3) := by decide +kernel
theorem dX8_init_26 : decode cX8_init 26 = .ok (.newarray .int, 2) := by decide +kernel
theorem dX8_init_28 : decode cX8_init 28 = .ok (.putfield 18, 3) := by decide +kernel
theorem dX8_init_31 : decode cX8_init 31 = .ok (.return_, 1) := by decide +kernel
theorem dX8_cut_0 : decode cX8_cut 0 = .ok (.iload_n 2, 1) := by decide +kernel
theorem dX8_cut_1 : decode cX8_cut 1 = .ok (.aload_n 1, 1) := by decide +kernel
theorem dX8_cut_2 : decode cX8_cut 2 = .ok (.arraylength, 1) := by decide +kernel
theorem dX8_cut_3 : decode cX8_cut 3 = .ok (.invokestatic 21, 3) := by decide +kernel
theorem dX8_cut_6 : decode cX8_cut 6 = .ok (.istore_n 3, 1) := by decide +kernel
theorem dX8_cut_7 : decode cX8_cut 7 = .ok (.aload_n 0, 1) := by decide +kernel
theorem dX8_cut_8 : decode cX8_cut 8 = .ok (.iconst 0, 1) := by decide +kernel
theorem dX8_cut_9 : decode cX8_cut 9 = .ok (.putfield 27, 3) := by decide +kernel
theorem dX8_cut_12 : decode cX8_cut 12 = .ok (.iconst 0, 1) := by decide +kernel
theorem dX8_cut_13 : decode cX8_cut 13 = .ok (.istore 4, 2) := by decide +kernel
theorem dX8_cut_15 : decode cX8_cut 15 = .ok (.iload 4, 2) := by decide +kernel
theorem dX8_cut_17 : decode cX8_cut 17 = .ok (.iload_n 3, 1) := by decide +kernel
theorem dX8_cut_18 : decode cX8_cut 18 = .ok (.if_icmp .ge 42, 3) := by decide +kernel
theorem dX8_cut_21 : decode cX8_cut 21 = .ok (.aload_n 1, 1) := by decide +kernel
theorem dX8_cut_22 : decode cX8_cut 22 = .ok (.iload 4, 2) := by decide +kernel
theorem dX8_cut_24 : decode cX8_cut 24 = .ok (.baload, 1) := by decide +kernel
theorem dX8_cut_25 : decode cX8_cut 25 = .ok (.bipush 10, 2) := by decide +kernel
theorem dX8_cut_27 : decode cX8_cut 27 = .ok (.if_icmp .eq 27, 3) := by decide +kernel
theorem dX8_cut_30 : decode cX8_cut 30 = .ok (.aload_n 1, 1) := by decide +kernel
theorem dX8_cut_31 : decode cX8_cut 31 = .ok (.iload 4, 2) := by decide +kernel
theorem dX8_cut_33 : decode cX8_cut 33 = .ok (.baload, 1) := by decide +kernel
theorem dX8_cut_34 : decode cX8_cut 34 = .ok (.bipush 32, 2) := by decide +kernel
theorem dX8_cut_36 : decode cX8_cut 36 = .ok (.if_icmp .eq 18, 3) := by decide +kernel
theorem dX8_cut_39 : decode cX8_cut 39 = .ok (.iload 4, 2) := by decide +kernel
theorem dX8_cut_41 : decode cX8_cut 41 = .ok (.aload_n 0, 1) := by decide +kernel
theorem dX8_cut_42 : decode cX8_cut 42 = .ok (.aload_n 1, 1) := by decide +kernel
theorem dX8_cut_43 : decode cX8_cut 43 = .ok (.iload 4, 2) := by decide +kernel
theorem dX8_cut_45 : decode cX8_cut 45 = .ok (.iload_n 3, 1) := by decide +kernel
theorem dX8_cut_46 : decode cX8_cut 46 = .ok (.invokevirtual 31, 3) := by decide +kernel
theorem dX8_cut_49 : decode cX8_cut 49 = .ok (.invokestatic 35, 3) := by decide +kernel
theorem dX8_cut_52 : decode cX8_cut 52 = .ok (.istore 4, 2) := by decide +kernel
theorem dX8_cut_54 : decode cX8_cut 54 = .ok (.iinc 4 1, 3) := by decide +kernel
theorem dX8_cut_57 : decode cX8_cut 57 = .ok (.goto (-42), 3) := by decide +kernel
theorem dX8_cut_60 : decode cX8_cut 60 = .ok (.aload_n 0, 1) := by decide +kernel
theorem dX8_cut_61 : decode cX8_cut 61 = .ok (.iconst 0, 1) := by decide +kernel
theorem dX8_cut_62 : decode cX8_cut 62 = .ok (.iconst 0, 1) := by decide +kernel
theorem dX8_cut_63 : decode cX8_cut 63 = .ok (.iload_n 3, 1) := by decide +kernel
theorem dX8_cut_64 : decode cX8_cut 64 = .ok (.invokevirtual 38, 3) := by decide +kernel
theorem dX8_cut_67 : decode cX8_cut 67 = .ok (.return_, 1) := by decide +kernel
theorem dX8_cutOne_0 : decode cX8_cutOne 0 = .ok (.iload_n 2, 1) := by decide +kernel
theorem dX8_cutOne_1 : decode cX8_cutOne 1 = .ok (.iconst 1, 1) := by decide +kernel
theorem dX8_cutOne_2 : decode cX8_cutOne 2 = .ok (.iadd, 1) := by decide +kernel
theorem dX8_cutOne_3 : decode cX8_cutOne 3 = .ok (.istore 4, 2) := by decide +kernel
theorem dX8_cutOne_5 : decode cX8_cutOne 5 = .ok (.aload_n 0, 1) := by decide +kernel
theorem dX8_cutOne_6 : decode cX8_cutOne 6 = .ok (.aload_n 1, 1) := by decide +kernel
theorem dX8_cutOne_7 : decode cX8_cutOne 7 = .ok (.iload_n 2, 1) := by decide +kernel
theorem dX8_cutOne_8 : decode cX8_cutOne 8 = .ok (.baload, 1) := by decide +kernel
theorem dX8_cutOne_9 : decode cX8_cutOne 9 = .ok (.invokevirtual 42, 3) := by decide +kernel
theorem dX8_cutOne_12 : decode cX8_cutOne 12 = .ok (.ifCond .eq 78, 3) := by decide +kernel
theorem dX8_cutOne_15 : decode cX8_cutOne 15 = .ok (.aload_n 1, 1) := by decide +kernel
theorem dX8_cutOne_16 : decode cX8_cutOne 16 = .ok (.iload_n 2, 1) := by decide +kernel
theorem dX8_cutOne_17 : decode cX8_cutOne 17 = .ok (.baload, 1) := by decide +kernel
theorem dX8_cutOne_18 : decode cX8_cutOne 18 = .ok (.bipush 48, 2) := by decide +kernel
theorem dX8_cutOne_20 : decode cX8_cutOne 20 = .ok (.isub, 1) := by decide +kernel
theorem dX8_cutOne_21 : decode cX8_cutOne 21 = .ok (.istore 5, 2) := by decide +kernel
theorem dX8_cutOne_23 : decode cX8_cutOne 23 = .ok (.iload 4, 2) := by decide +kernel
theorem dX8_cutOne_25 : decode cX8_cutOne 25 = .ok (.iload_n 3, 1) := by decide +kernel
theorem dX8_cutOne_26 : decode cX8_cutOne 26 = .ok (.if_icmp .ge 41, 3) := by decide +kernel
theorem dX8_cutOne_29 : decode cX8_cutOne 29 = .ok (.aload_n 0, 1) := by decide +kernel
theorem dX8_cutOne_30 : decode cX8_cutOne 30 = .ok (.aload_n 1, 1) := by decide +kernel
theorem dX8_cutOne_31 : decode cX8_cutOne 31 = .ok (.iload 4, 2) := by decide +kernel
theorem dX8_cutOne_33 : decode cX8_cutOne 33 = .ok (.baload, 1) := by decide +kernel
theorem dX8_cutOne_34 : decode cX8_cutOne 34 = .ok (.invokevirtual 42, 3) := by decide +kernel
theorem dX8_cutOne_37 : decode cX8_cutOne 37 = .ok (.ifCond .eq 30, 3) := by decide +kernel
theorem dX8_cutOne_40 : decode cX8_cutOne 40 = .ok (.iload 5, 2) := by decide +kernel
theorem dX8_cutOne_42 : decode cX8_cutOne 42 = .ok (.bipush 10, 2) := by decide +kernel
theorem dX8_cutOne_44 : decode cX8_cutOne 44 = .ok (.imul, 1) := by decide +kernel
theorem dX8_cutOne_45 : decode cX8_cutOne 45 = .ok (.aload_n 1, 1) := by decide +kernel
theorem dX8_cutOne_46 : decode cX8_cutOne 46 = .ok (.iload 4, 2) := by decide +kernel
theorem dX8_cutOne_48 : decode cX8_cutOne 48 = .ok (.baload, 1) := by decide +kernel
theorem dX8_cutOne_49 : decode cX8_cutOne 49 = .ok (.iadd, 1) := by decide +kernel
theorem dX8_cutOne_50 : decode cX8_cutOne 50 = .ok (.bipush 48, 2) := by decide +kernel
theorem dX8_cutOne_52 : decode cX8_cutOne 52 = .ok (.isub, 1) := by decide +kernel
theorem dX8_cutOne_53 : decode cX8_cutOne 53 = .ok (.sipush 1000, 3) := by decide +kernel
theorem dX8_cutOne_56 : decode cX8_cutOne 56 = .ok (.invokestatic 21, 3) := by decide +kernel
theorem dX8_cutOne_59 : decode cX8_cutOne 59 = .ok (.istore 5, 2) := by decide +kernel
theorem dX8_cutOne_61 : decode cX8_cutOne 61 = .ok (.iinc 4 1, 3) := by decide +kernel
theorem dX8_cutOne_64 : decode cX8_cutOne 64 = .ok (.goto (-41), 3) := by decide +kernel
theorem dX8_cutOne_67 : decode cX8_cutOne 67 = .ok (.aload_n 0, 1) := by decide +kernel
theorem dX8_cutOne_68 : decode cX8_cutOne 68 = .ok (.iload 4, 2) := by decide +kernel
theorem dX8_cutOne_70 : decode cX8_cutOne 70 = .ok (.iload_n 2, 1) := by decide +kernel
theorem dX8_cutOne_71 : decode cX8_cutOne 71 = .ok (.isub, 1) := by decide +kernel
theorem dX8_cutOne_72 : decode cX8_cutOne 72 = .ok (.iconst 3, 1) := by decide +kernel
theorem dX8_cutOne_73 : decode cX8_cutOne 73 = .ok (.if_icmp .le 7, 3) := by decide +kernel
theorem dX8_cutOne_76 : decode cX8_cutOne 76 = .ok (.iconst 1, 1) := by decide +kernel
theorem dX8_cutOne_77 : decode cX8_cutOne 77 = .ok (.goto 4, 3) := by decide +kernel
theorem dX8_cutOne_80 : decode cX8_cutOne 80 = .ok (.iconst 2, 1) := by decide +kernel
theorem dX8_cutOne_81 : decode cX8_cutOne 81 = .ok (.iload 5, 2) := by decide +kernel
theorem dX8_cutOne_83 : decode cX8_cutOne 83 = .ok (.iload_n 2, 1) := by decide +kernel
theorem dX8_cutOne_84 : decode cX8_cutOne 84 = .ok (.invokevirtual 38, 3) := by decide +kernel
theorem dX8_cutOne_87 : decode cX8_cutOne 87 = .ok (.goto 82, 3) := by decide +kernel
theorem dX8_cutOne_90 : decode cX8_cutOne 90 = .ok (.aload_n 0, 1) := by decide +kernel
theorem dX8_cutOne_91 : decode cX8_cutOne 91 = .ok (.aload_n 1, 1) := by decide +kernel
theorem dX8_cutOne_92 : decode cX8_cutOne 92 = .ok (.iload_n 2, 1) := by decide +kernel
theorem dX8_cutOne_93 : decode cX8_cutOne 93 = .ok (.baload, 1) := by decide +kernel
theorem dX8_cutOne_94 : decode cX8_cutOne 94 = .ok (.invokevirtual 46, 3) := by decide +kernel
theorem dX8_cutOne_97 : decode cX8_cutOne 97 = .ok (.ifCond .eq 43, 3) := by decide +kernel
theorem dX8_cutOne_100 : decode cX8_cutOne 100 = .ok (.iload 4, 2) := by decide +kernel
theorem dX8_cutOne_102 : decode cX8_cutOne 102 = .ok (.iload_n 3, 1) := by decide +kernel
theorem dX8_cutOne_103 : decode cX8_cutOne 103 = .ok (.if_icmp .ge 20, 3) := by decide +kernel
theorem dX8_cutOne_106 : decode cX8_cutOne 106 = .ok (.aload_n 0, 1) := by decide +kernel
theorem dX8_cutOne_107 : decode cX8_cutOne 107 = .ok (.aload_n 1, 1) := by decide +kernel
theorem dX8_cutOne_108 : decode cX8_cutOne 108 = .ok (.iload 4, 2) := by decide +kernel
theorem dX8_cutOne_110 : decode cX8_cutOne 110 = .ok (.baload, 1) := by decide +kernel
theorem dX8_cutOne_111 : decode cX8_cutOne 111 = .ok (.invokevirtual 46, 3) := by decide +kernel
theorem dX8_cutOne_114 : decode cX8_cutOne 114 = .ok (.ifCond .eq 9, 3) := by decide +kernel
theorem dX8_cutOne_117 : decode cX8_cutOne 117 = .ok (.iinc 4 1, 3) := by decide +kernel
theorem dX8_cutOne_120 : decode cX8_cutOne 120 = .ok (.goto (-20), 3) := by decide +kernel
theorem dX8_cutOne_123 : decode cX8_cutOne 123 = .ok (.aload_n 0, 1) := by decide +kernel
theorem dX8_cutOne_124 : decode cX8_cutOne 124 = .ok (.aload_n 0, 1) := by decide +kernel
theorem dX8_cutOne_125 : decode cX8_cutOne 125 = .ok (.aload_n 1, 1) := by decide +kernel
theorem dX8_cutOne_126 : decode cX8_cutOne 126 = .ok (.iload_n 2, 1) := by decide +kernel
theorem dX8_cutOne_127 : decode cX8_cutOne 127 = .ok (.iload 4, 2) := by decide +kernel
theorem dX8_cutOne_129 : decode cX8_cutOne 129 = .ok (.invokevirtual 49, 3) := by decide +kernel
theorem dX8_cutOne_132 : decode cX8_cutOne 132 = .ok (.iconst 0, 1) := by decide +kernel
theorem dX8_cutOne_133 : decode cX8_cutOne 133 = .ok (.iload_n 2, 1) := by decide +kernel
theorem dX8_cutOne_134 : decode cX8_cutOne 134 = .ok (.invokevirtual 38, 3) := by decide +kernel
theorem dX8_cutOne_137 : decode cX8_cutOne 137 = .ok (.goto 32, 3) := by decide +kernel
theorem dX8_cutOne_140 : decode cX8_cutOne 140 = .ok (.aload_n 0, 1) := by decide +kernel
theorem dX8_cutOne_141 : decode cX8_cutOne 141 = .ok (.ldc 52, 2) := by decide +kernel
theorem dX8_cutOne_143 : decode cX8_cutOne 143 = .ok (.aload_n 1, 1) := by decide +kernel
theorem dX8_cutOne_144 : decode cX8_cutOne 144 = .ok (.iload_n 2, 1) := by decide +kernel
theorem dX8_cutOne_145 : decode cX8_cutOne 145 = .ok (.baload, 1) := by decide +kernel
theorem dX8_cutOne_146 : decode cX8_cutOne 146 = .ok (.sipush 255, 3) := by decide +kernel
theorem dX8_cutOne_149 : decode cX8_cutOne 149 = .ok (.iand, 1) := by decide +kernel
theorem dX8_cutOne_150 : decode cX8_cutOne 150 = .ok (.i2c, 1) := by decide +kernel
theorem dX8_cutOne_151 : decode cX8_cutOne 151 = .ok (.invokevirtual 54, 3) := by decide +kernel
theorem dX8_cutOne_154 : decode cX8_cutOne 154 = .ok (.ifCond .lt 9, 3) := by decide +kernel
theorem dX8_cutOne_157 : decode cX8_cutOne 157 = .ok (.aload_n 1, 1) := by decide +kernel
theorem dX8_cutOne_158 : decode cX8_cutOne 158 = .ok (.iload_n 2, 1) := by decide +kernel
theorem dX8_cutOne_159 : decode cX8_cutOne 159 = .ok (.baload, 1) := by decide +kernel
theorem dX8_cutOne_160 : decode cX8_cutOne 160 = .ok (.goto 4, 3) := by decide +kernel
theorem dX8_cutOne_163 : decode cX8_cutOne 163 = .ok (.iconst 1, 1) := by decide +kernel
theorem dX8_cutOne_164 : decode cX8_cutOne 164 = .ok (.iconst 0, 1) := by decide +kernel
theorem dX8_cutOne_165 : decode cX8_cutOne 165 = .ok (.iload_n 2, 1) := by decide +kernel
theorem dX8_cutOne_166 : decode cX8_cutOne 166 = .ok (.invokevirtual 38, 3) := by decide +kernel
theorem dX8_cutOne_169 : decode cX8_cutOne 169 = .ok (.iload 4, 2) := by decide +kernel
theorem dX8_cutOne_171 : decode cX8_cutOne 171 = .ok (.iconst 1, 1) := by decide +kernel
theorem dX8_cutOne_172 : decode cX8_cutOne 172 = .ok (.isub, 1) := by decide +kernel
theorem dX8_cutOne_173 : decode cX8_cutOne 173 = .ok (.ireturn, 1) := by decide +kernel
theorem dX8_isDigit_0 : decode cX8_isDigit 0 = .ok (.iload_n 1, 1) := by decide +kernel
theorem dX8_isDigit_1 : decode cX8_isDigit 1 = .ok (.bipush 48, 2) := by decide +kernel
theorem dX8_isDigit_3 : decode cX8_isDigit 3 = .ok (.if_icmp .lt 13, 3) := by decide +kernel
theorem dX8_isDigit_6 : decode cX8_isDigit 6 = .ok (.iload_n 1, 1) := by decide +kernel
theorem dX8_isDigit_7 : decode cX8_isDigit 7 = .ok (.bipush 57, 2) := by decide +kernel
theorem dX8_isDigit_9 : decode cX8_isDigit 9 = .ok (.if_icmp .gt 7, 3) := by decide +kernel
theorem dX8_isDigit_12 : decode cX8_isDigit 12 = .ok (.iconst 1, 1) := by decide +kernel
theorem dX8_isDigit_13 : decode cX8_isDigit 13 = .ok (.goto 4, 3) := by decide +kernel
theorem dX8_isDigit_16 : decode cX8_isDigit 16 = .ok (.iconst 0, 1) := by decide +kernel
theorem dX8_isDigit_17 : decode cX8_isDigit 17 = .ok (.ireturn, 1) := by decide +kernel
theorem dX8_isLetter_0 : decode cX8_isLetter 0 = .ok (.iload_n 1, 1) := by decide +kernel
theorem dX8_isLetter_1 : decode cX8_isLetter 1 = .ok (.bipush 97, 2) := by decide +kernel
theorem dX8_isLetter_3 : decode cX8_isLetter 3 = .ok (.if_icmp .lt 13, 3) := by decide +kernel
theorem dX8_isLetter_6 : decode cX8_isLetter 6 = .ok (.iload_n 1, 1) := by decide +kernel
theorem dX8_isLetter_7 : decode cX8_isLetter 7 = .ok (.bipush 122, 2) := by decide +kernel
theorem dX8_isLetter_9 : decode cX8_isLetter 9 = .ok (.if_icmp .gt 7, 3) := by decide +kernel
theorem dX8_isLetter_12 : decode cX8_isLetter 12 = .ok (.iconst 1, 1) := by decide +kernel
theorem dX8_isLetter_13 : decode cX8_isLetter 13 = .ok (.goto 4, 3) := by decide +kernel
theorem dX8_isLetter_16 : decode cX8_isLetter 16 = .ok (.iconst 0, 1) := by decide +kernel
theorem dX8_isLetter_17 : decode cX8_isLetter 17 = .ok (.ireturn, 1) := by decide +kernel
theorem dX8_wordOf_0 : decode cX8_wordOf 0 = .ok (.sipush 128, 3) := by decide +kernel
theorem dX8_wordOf_3 : decode cX8_wordOf 3 = .ok (.istore 4, 2) := by decide +kernel
theorem dX8_wordOf_5 : decode cX8_wordOf 5 = .ok (.iload_n 2, 1) := by decide +kernel
theorem dX8_wordOf_6 : decode cX8_wordOf 6 = .ok (.istore 5, 2) := by decide +kernel
theorem dX8_wordOf_8 : decode cX8_wordOf 8 = .ok (.iconst 1, 1) := by decide +kernel
theorem dX8_wordOf_9 : decode cX8_wordOf 9 = .ok (.istore 6, 2) := by decide +kernel
theorem dX8_wordOf_11 : decode cX8_wordOf 11 = .ok (.iconst 0, 1) := by decide +kernel
theorem dX8_wordOf_12 : decode cX8_wordOf 12 = .ok (.istore 7, 2) := by decide +kernel
theorem dX8_wordOf_14 : decode cX8_wordOf 14 = .ok (.iload 7, 2) := by decide +kernel
theorem dX8_wordOf_16 : decode cX8_wordOf 16 = .ok (.ldc 60, 2) := by decide +kernel
theorem dX8_wordOf_18 : decode cX8_wordOf 18 = .ok (.invokevirtual 62, 3) := by decide +kernel
theorem dX8_wordOf_21 : decode cX8_wordOf 21 = .ok (.if_icmp .ge 82, 3) := by decide +kernel
theorem dX8_wordOf_24 : decode cX8_wordOf 24 = .ok (.ldc 60, 2) := by decide +kernel
theorem dX8_wordOf_26 : decode cX8_wordOf 26 = .ok (.iload 7, 2) := by decide +kernel
theorem dX8_wordOf_28 : decode cX8_wordOf 28 = .ok (.invokevirtual 66, 3) := by decide +kernel
theorem dX8_wordOf_31 : decode cX8_wordOf 31 = .ok (.bipush 32, 2) := by decide +kernel
theorem dX8_wordOf_33 : decode cX8_wordOf 33 = .ok (.if_icmp .eq 41, 3) := by decide +kernel
theorem dX8_wordOf_36 : decode cX8_wordOf 36 = .ok (.iload 6, 2) := by decide +kernel
theorem dX8_wordOf_38 : decode cX8_wordOf 38 = .ok (.ifCond .eq 27, 3) := by decide +kernel
theorem dX8_wordOf_41 : decode cX8_wordOf 41 = .ok (.iload 5, 2) := by decide +kernel
theorem dX8_wordOf_43 : decode cX8_wordOf 43 = .ok (.iload_n 3, 1) := by decide +kernel
theorem dX8_wordOf_44 : decode cX8_wordOf 44 = .ok (.if_icmp .ge 21, 3) := by decide +kernel
theorem dX8_wordOf_47 : decode cX8_wordOf 47 = .ok (.aload_n 1, 1) := by decide +kernel
theorem dX8_wordOf_48 : decode cX8_wordOf 48 = .ok (.iload 5, 2) := by decide +kernel
theorem dX8_wordOf_50 : decode cX8_wordOf 50 = .ok (.baload, 1) := by decide +kernel
theorem dX8_wordOf_51 : decode cX8_wordOf 51 = .ok (.ldc 60, 2) := by decide +kernel
theorem dX8_wordOf_53 : decode cX8_wordOf 53 = .ok (.iload 7, 2) := by decide +kernel
theorem dX8_wordOf_55 : decode cX8_wordOf 55 = .ok (.invokevirtual 66, 3) := by decide +kernel
theorem dX8_wordOf_58 : decode cX8_wordOf 58 = .ok (.if_icmp .ne 7, 3) := by decide +kernel
theorem dX8_wordOf_61 : decode cX8_wordOf 61 = .ok (.iconst 1, 1) := by decide +kernel
theorem dX8_wordOf_62 : decode cX8_wordOf 62 = .ok (.goto 4, 3) := by decide +kernel
theorem dX8_wordOf_65 : decode cX8_wordOf 65 = .ok (.iconst 0, 1) := by decide +kernel
theorem dX8_wordOf_66 : decode cX8_wordOf 66 = .ok (.istore 6, 2) := by decide +kernel
theorem dX8_wordOf_68 : decode cX8_wordOf 68 = .ok (.iinc 5 1, 3) := by decide +kernel
theorem dX8_wordOf_71 : decode cX8_wordOf 71 = .ok (.goto 26, 3) := by decide +kernel
theorem dX8_wordOf_74 : decode cX8_wordOf 74 = .ok (.iload 6, 2) := by decide +kernel
theorem dX8_wordOf_76 : decode cX8_wordOf 76 = .ok (.ifCond .eq 12, 3) := by decide +kernel
theorem dX8_wordOf_79 : decode cX8_wordOf 79 = .ok (.iload 5, 2) := by decide +kernel
theorem dX8_wordOf_81 : decode cX8_wordOf 81 = .ok (.iload_n 3, 1) := by decide +kernel
theorem dX8_wordOf_82 : decode cX8_wordOf 82 = .ok (.if_icmp .ne 6, 3) := by decide +kernel
theorem dX8_wordOf_85 : decode cX8_wordOf 85 = .ok (.iload 4, 2) := by decide +kernel
theorem dX8_wordOf_87 : decode cX8_wordOf 87 = .ok (.ireturn, 1) := by decide +kernel
theorem dX8_wordOf_88 : decode cX8_wordOf 88 = .ok (.iinc 4 1, 3) := by decide +kernel
theorem dX8_wordOf_91 : decode cX8_wordOf 91 = .ok (.iload_n 2, 1) := by decide +kernel
theorem dX8_wordOf_92 : decode cX8_wordOf 92 = .ok (.istore 5, 2) := by decide +kernel
theorem dX8_wordOf_94 : decode cX8_wordOf 94 = .ok (.iconst 1, 1) := by decide +kernel
theorem dX8_wordOf_95 : decode cX8_wordOf 95 = .ok (.istore 6, 2) := by decide +kernel
theorem dX8_wordOf_97 : decode cX8_wordOf 97 = .ok (.iinc 7 1, 3) := by decide +kernel
theorem dX8_wordOf_100 : decode cX8_wordOf 100 = .ok (.goto (-86), 3) := by decide +kernel
theorem dX8_wordOf_103 : decode cX8_wordOf 103 = .ok (.iconst 3, 1) := by decide +kernel
theorem dX8_wordOf_104 : decode cX8_wordOf 104 = .ok (.ireturn, 1) := by decide +kernel
theorem dX8_add_0 : decode cX8_add 0 = .ok (.aload_n 0, 1) := by decide +kernel
theorem dX8_add_1 : decode cX8_add 1 = .ok (.getfield 27, 3) := by decide +kernel
theorem dX8_add_4 : decode cX8_add 4 = .ok (.ifCond .lt 53, 3) := by decide +kernel
theorem dX8_add_7 : decode cX8_add 7 = .ok (.aload_n 0, 1) := by decide +kernel
theorem dX8_add_8 : decode cX8_add 8 = .ok (.getfield 27, 3) := by decide +kernel
theorem dX8_add_11 : decode cX8_add 11 = .ok (.sipush 900, 3) := by decide +kernel
theorem dX8_add_14 : decode cX8_add 14 = .ok (.if_icmp .gt 43, 3) := by decide +kernel
theorem dX8_add_17 : decode cX8_add 17 = .ok (.aload_n 0, 1) := by decide +kernel
theorem dX8_add_18 : decode cX8_add 18 = .ok (.getfield 9, 3) := by decide +kernel
theorem dX8_add_21 : decode cX8_add 21 = .ok (.aload_n 0, 1) := by decide +kernel
theorem dX8_add_22 : decode cX8_add 22 = .ok (.getfield 27, 3) := by decide +kernel
theorem dX8_add_25 : decode cX8_add 25 = .ok (.iload_n 1, 1) := by decide +kernel
theorem dX8_add_26 : decode cX8_add 26 = .ok (.iastore, 1) := by decide +kernel
theorem dX8_add_27 : decode cX8_add 27 = .ok (.aload_n 0, 1) := by decide +kernel
theorem dX8_add_28 : decode cX8_add 28 = .ok (.getfield 15, 3) := by decide +kernel
theorem dX8_add_31 : decode cX8_add 31 = .ok (.aload_n 0, 1) := by decide +kernel
theorem dX8_add_32 : decode cX8_add 32 = .ok (.getfield 27, 3) := by decide +kernel
theorem dX8_add_35 : decode cX8_add 35 = .ok (.iload_n 2, 1) := by decide +kernel
theorem dX8_add_36 : decode cX8_add 36 = .ok (.iastore, 1) := by decide +kernel
theorem dX8_add_37 : decode cX8_add 37 = .ok (.aload_n 0, 1) := by decide +kernel
theorem dX8_add_38 : decode cX8_add 38 = .ok (.getfield 18, 3) := by decide +kernel
theorem dX8_add_41 : decode cX8_add 41 = .ok (.aload_n 0, 1) := by decide +kernel
theorem dX8_add_42 : decode cX8_add 42 = .ok (.getfield 27, 3) := by decide +kernel
theorem dX8_add_45 : decode cX8_add 45 = .ok (.iload_n 3, 1) := by decide +kernel
theorem dX8_add_46 : decode cX8_add 46 = .ok (.iastore, 1) := by decide +kernel
theorem dX8_add_47 : decode cX8_add 47 = .ok (.aload_n 0, 1) := by decide +kernel
theorem dX8_add_48 : decode cX8_add 48 = .ok (.dup, 1) := by decide +kernel
theorem dX8_add_49 : decode cX8_add 49 = .ok (.getfield 27, 3) := by decide +kernel
theorem dX8_add_52 : decode cX8_add 52 = .ok (.iconst 1, 1) := by decide +kernel
theorem dX8_add_53 : decode cX8_add 53 = .ok (.iadd, 1) := by decide +kernel
theorem dX8_add_54 : decode cX8_add 54 = .ok (.putfield 27, 3) := by decide +kernel
theorem dX8_add_57 : decode cX8_add 57 = .ok (.return_, 1) := by decide +kernel
theorem dX9_init_0 : decode cX9_init 0 = .ok (.aload_n 0, 1) := by decide +kernel
theorem dX9_init_1 : decode cX9_init 1 = .ok (.invokespecial 3, 3) := by decide +kernel
theorem dX9_init_4 : decode cX9_init 4 = .ok (.aload_n 0, 1) := by decide +kernel
theorem dX9_init_5 : decode cX9_init 5 = .ok (.new 9, 3) := by decide +kernel
theorem dX9_init_8 : decode cX9_init 8 = .ok (.dup, 1) := by decide +kernel
theorem dX9_init_9 : decode cX9_init 9 = .ok (.invokespecial 11, 3) := by decide +kernel
theorem dX9_init_12 : decode cX9_init 12 = .ok (.putfield 12, 3) := by decide +kernel
theorem dX9_init_15 : decode cX9_init 15 = .ok (.aload_n 0, 1) := by decide +kernel
theorem dX9_init_16 : decode cX9_init 16 = .ok (.bipush 100, 2) := by decide +kernel
theorem dX9_init_18 : decode cX9_init 18 = .ok (.putfield 18, 3) := by decide +kernel
theorem dX9_init_21 : decode cX9_init 21 = .ok (.aload_n 0, 1) := by decide +kernel
theorem dX9_init_22 : decode cX9_init 22 = .ok (.getstatic 22, 3) := by decide +kernel
theorem dX9_init_25 : decode cX9_init 25 = .ok (.putfield 26, 3) := by decide +kernel
theorem dX9_init_28 : decode cX9_init 28 = .ok (.aload_n 0, 1) := by decide +kernel
theorem dX9_init_29 : decode cX9_init 29 = .ok (.getstatic 22, 3) := by decide +kernel
theorem dX9_init_32 : decode cX9_init 32 = .ok (.putfield 29, 3) := by decide +kernel
theorem dX9_init_35 : decode cX9_init 35 = .ok (.aload_n 0, 1) := by decide +kernel
theorem dX9_init_36 : decode cX9_init 36 = .ok (.getstatic 22, 3) := by decide +kernel
theorem dX9_init_39 : decode cX9_init 39 = .ok (.putfield 32, 3) := by decide +kernel
theorem dX9_init_42 : decode cX9_init 42 = .ok (.return_, 1) := by decide +kernel
theorem dX9_next_0 : decode cX9_next 0 = .ok (.iload_n 1, 1) := by decide +kernel
theorem dX9_next_1 : decode cX9_next 1 = .ok (.iconst 1, 1) := by decide +kernel
theorem dX9_next_2 : decode cX9_next 2 = .ok (.iadd, 1) := by decide +kernel
theorem dX9_next_3 : decode cX9_next 3 = .ok (.iload_n 2, 1) := by decide +kernel
theorem dX9_next_4 : decode cX9_next 4 = .ok (.if_icmp .ge 9, 3) := by decide +kernel
theorem dX9_next_7 : decode cX9_next 7 = .ok (.iload_n 1, 1) := by decide +kernel
theorem dX9_next_8 : decode cX9_next 8 = .ok (.iconst 1, 1) := by decide +kernel
theorem dX9_next_9 : decode cX9_next 9 = .ok (.iadd, 1) := by decide +kernel
theorem dX9_next_10 : decode cX9_next 10 = .ok (.goto 15, 3) := by decide +kernel
theorem dX9_next_13 : decode cX9_next 13 = .ok (.aload_n 0, 1) := by decide +kernel
theorem dX9_next_14 : decode cX9_next 14 = .ok (.getfield 35, 3) := by decide +kernel
theorem dX9_next_17 : decode cX9_next 17 = .ok (.ifCond .eq 7, 3) := by decide +kernel
theorem dX9_next_20 : decode cX9_next 20 = .ok (.iconst 0, 1) := by decide +kernel
theorem dX9_next_21 : decode cX9_next 21 = .ok (.goto 4, 3) := by decide +kernel
theorem dX9_next_24 : decode cX9_next 24 = .ok (.iconst (-1), 1) := by decide +kernel
theorem dX9_next_25 : decode cX9_next 25 = .ok (.ireturn, 1) := by decide +kernel
theorem dX10_init_0 : decode cX10_init 0 = .ok (.aload_n 0, 1) := by decide +kernel
theorem dX10_init_1 : decode cX10_init 1 = .ok (.invokespecial 3, 3) := by decide +kernel
theorem dX10_init_4 : decode cX10_init 4 = .ok (.aload_n 0, 1) := by decide +kernel
theorem dX10_init_5 : decode cX10_init 5 = .ok (.iconst (-1), 1) := by decide +kernel
theorem dX10_init_6 : decode cX10_init 6 = .ok (.putfield 9, 3) := by decide +kernel
theorem dX10_init_9 : decode cX10_init 9 = .ok (.aload_n 0, 1) := by decide +kernel
theorem dX10_init_10 : decode cX10_init 10 = .ok (.bipush 30, 2) := by decide +kernel
theorem dX10_init_12 : decode cX10_init 12 = .ok (.newarray .long, 2) := by decide +kernel
theorem dX10_init_14 : decode cX10_init 14 = .ok (.putfield 15, 3) := by decide +kernel
theorem dX10_init_17 : decode cX10_init 17 = .ok (.return_, 1) := by decide +kernel
theorem dX10_isMissing_0 : decode cX10_isMissing 0 = .ok (.aload_n 0, 1) := by decide +kernel
theorem dX10_isMissing_1 : decode cX10_isMissing 1 = .ok (.getfield 9, 3) := by decide +kernel
theorem dX10_isMissing_4 : decode cX10_isMissing 4 = .ok (.iconst (-1), 1) := by decide +kernel
theorem dX10_isMissing_5 : decode cX10_isMissing 5 = .ok (.if_icmp .ne 7, 3) := by decide +kernel
theorem dX10_isMissing_8 : decode cX10_isMissing 8 = .ok (.iconst 1, 1) := by decide +kernel
theorem dX10_isMissing_9 : decode cX10_isMissing 9 = .ok (.goto 4, 3) := by decide +kernel
theorem dX10_isMissing_12 : decode cX10_isMissing 12 = .ok (.iconst 0, 1) := by decide +kernel
theorem dX10_isMissing_13 : decode cX10_isMissing 13 = .ok (.ireturn, 1) := by decide +kernel
theorem dX10_lay_0 : decode cX10_lay 0 = .ok (.aload_n 0, 1) := by decide +kernel
theorem dX10_lay_1 : decode cX10_lay 1 = .ok (.iload_n 1, 1) := by decide +kernel
theorem dX10_lay_2 : decode cX10_lay 2 = .ok (.putfield 9, 3) := by decide +kernel
theorem dX10_lay_5 : decode cX10_lay 5 = .ok (.aload_n 0, 1) := by decide +kernel
theorem dX10_lay_6 : decode cX10_lay 6 = .ok (.iload_n 2, 1) := by decide +kernel
theorem dX10_lay_7 : decode cX10_lay 7 = .ok (.putfield 19, 3) := by decide +kernel
theorem dX10_lay_10 : decode cX10_lay 10 = .ok (.aload_n 0, 1) := by decide +kernel
theorem dX10_lay_11 : decode cX10_lay 11 = .ok (.getfield 15, 3) := by decide +kernel
theorem dX10_lay_14 : decode cX10_lay 14 = .ok (.lconst 0, 1) := by decide +kernel
theorem dX10_lay_15 : decode cX10_lay 15 = .ok (.invokestatic 22, 3) := by decide +kernel
theorem dX10_lay_18 : decode cX10_lay 18 = .ok (.return_, 1) := by decide +kernel
theorem dX10_at_0 : decode cX10_at 0 = .ok (.iload_n 1, 1) := by decide +kernel
theorem dX10_at_1 : decode cX10_at 1 = .ok (.ifCond .lt 21, 3) := by decide +kernel
theorem dX10_at_4 : decode cX10_at 4 = .ok (.iload_n 1, 1) := by decide +kernel
theorem dX10_at_5 : decode cX10_at 5 = .ok (.aload_n 0, 1) := by decide +kernel
theorem dX10_at_6 : decode cX10_at 6 = .ok (.getfield 15, 3) := by decide +kernel
theorem dX10_at_9 : decode cX10_at 9 = .ok (.arraylength, 1) := by decide +kernel
theorem dX10_at_10 : decode cX10_at 10 = .ok (.if_icmp .ge 12, 3) := by decide +kernel
theorem dX10_at_13 : decode cX10_at 13 = .ok (.aload_n 0, 1) := by decide +kernel
theorem dX10_at_14 : decode cX10_at 14 = .ok (.getfield 15, 3) := by decide +kernel
theorem dX10_at_17 : decode cX10_at 17 = .ok (.iload_n 1, 1) := by decide +kernel
theorem dX10_at_18 : decode cX10_at 18 = .ok (.laload, 1) := by decide +kernel
theorem dX10_at_19 : decode cX10_at 19 = .ok (.goto 4, 3) := by decide +kernel
theorem dX10_at_22 : decode cX10_at 22 = .ok (.lconst 0, 1) := by decide +kernel
theorem dX10_at_23 : decode cX10_at 23 = .ok (.lreturn, 1) := by decide +kernel
theorem dX10_put_0 : decode cX10_put 0 = .ok (.iload_n 1, 1) := by decide +kernel
theorem dX10_put_1 : decode cX10_put 1 = .ok (.ifCond .lt 23, 3) := by decide +kernel
theorem dX10_put_4 : decode cX10_put 4 = .ok (.iload_n 1, 1) := by decide +kernel
theorem dX10_put_5 : decode cX10_put 5 = .ok (.aload_n 0, 1) := by decide +kernel
theorem dX10_put_6 : decode cX10_put 6 = .ok (.getfield 15, 3) := by decide +kernel
theorem dX10_put_9 : decode cX10_put 9 = .ok (.arraylength, 1) := by decide +kernel
theorem dX10_put_10 : decode cX10_put 10 = .ok (.if_icmp .ge 14, 3) := by decide +kernel
theorem dX10_put_13 : decode cX10_put 13 = .ok (.aload_n 0, 1) := by decide +kernel
theorem dX10_put_14 : decode cX10_put 14 = .ok (.getfield 15, 3) := by decide +kernel
theorem dX10_put_17 : decode cX10_put 17 = .ok (.iload_n 1, 1) := by decide +kernel
theorem dX10_put_18 : decode cX10_put 18 = .ok (.aload_n 0, 1) := by decide +kernel
theorem dX10_put_19 : decode cX10_put 19 = .ok (.lload_n 2, 1) := by decide +kernel
theorem dX10_put_20 : decode cX10_put 20 = .ok (.invokevirtual 28, 3) := by decide +kernel
theorem dX10_put_23 : decode cX10_put 23 = .ok (.lastore, 1) := by decide +kernel
theorem dX10_put_24 : decode cX10_put 24 = .ok (.return_, 1) := by decide +kernel
theorem dX10_cut_0 : decode cX10_cut 0 = .ok (.aload_n 0, 1) := by decide +kernel
theorem dX10_cut_1 : decode cX10_cut 1 = .ok (.getfield 9, 3) := by decide +kernel
theorem dX10_cut_4 : decode cX10_cut 4 = .ok (.tableswitch 42 0 2 #[28, 33, 38], 28) := by decide +kernel
theorem dX10_cut_32 : decode cX10_cut 32 = .ok (.lload_n 1, 1) := by decide +kernel
theorem dX10_cut_33 : decode cX10_cut 33 = .ok (.l2i, 1) := by decide +kernel
theorem dX10_cut_34 : decode cX10_cut 34 = .ok (.i2b, 1) := by decide +kernel
theorem dX10_cut_35 : decode cX10_cut 35 = .ok (.i2l, 1) := by decide +kernel
theorem dX10_cut_36 : decode cX10_cut 36 = .ok (.lreturn, 1) := by decide +kernel
theorem dX10_cut_37 : decode cX10_cut 37 = .ok (.lload_n 1, 1) := by decide +kernel
theorem dX10_cut_38 : decode cX10_cut 38 = .ok (.l2i, 1) := by decide +kernel
theorem dX10_cut_39 : decode cX10_cut 39 = .ok (.i2s, 1) := by decide +kernel
theorem dX10_cut_40 : decode cX10_cut 40 = .ok (.i2l, 1) := by decide +kernel
theorem dX10_cut_41 : decode cX10_cut 41 = .ok (.lreturn, 1) := by decide +kernel
theorem dX10_cut_42 : decode cX10_cut 42 = .ok (.lload_n 1, 1) := by decide +kernel
theorem dX10_cut_43 : decode cX10_cut 43 = .ok (.l2i, 1) := by decide +kernel
theorem dX10_cut_44 : decode cX10_cut 44 = .ok (.i2l, 1) := by decide +kernel
theorem dX10_cut_45 : decode cX10_cut 45 = .ok (.lreturn, 1) := by decide +kernel
theorem dX10_cut_46 : decode cX10_cut 46 = .ok (.lload_n 1, 1) := by decide +kernel
theorem dX10_cut_47 : decode cX10_cut 47 = .ok (.lreturn, 1) := by decide +kernel
theorem dJ0_length_8abf5_0 : decode cJ0_length_8abf5 0 = .ok (.aload_n 0, 1) := by decide +kernel
theorem dJ0_length_8abf5_1 : decode cJ0_length_8abf5 1 = .ok (.getfield 9, 3) := by decide +kernel
theorem dJ0_length_8abf5_4 : decode cJ0_length_8abf5 4 = .ok (.arraylength, 1) := by decide +kernel
theorem dJ0_length_8abf5_5 : decode cJ0_length_8abf5 5 = .ok (.aload_n 0, 1) := by decide +kernel
theorem dJ0_length_8abf5_6 : decode cJ0_length_8abf5 6 = .ok (.invokevirtual 335, 3) := by decide +kernel
theorem dJ0_length_8abf5_9 : decode cJ0_length_8abf5 9 = .ok (.ishr, 1) := by decide +kernel
theorem dJ0_length_8abf5_10 : decode cJ0_length_8abf5 10 = .ok (.ireturn, 1) := by decide +kernel
theorem dJ0_charAt_5068e_0 : decode cJ0_charAt_5068e 0 = .ok (.aload_n 0, 1) := by decide +kernel
theorem dJ0_charAt_5068e_1 : decode cJ0_charAt_5068e 1 = .ok (.invokevirtual 492, 3) := by decide +kernel
theorem dJ0_charAt_5068e_4 : decode cJ0_charAt_5068e 4 = .ok (.ifCond .eq 12, 3) := by decide +kernel
theorem dJ0_charAt_5068e_7 : decode cJ0_charAt_5068e 7 = .ok (.aload_n 0, 1) := by decide +kernel
theorem dJ0_charAt_5068e_8 : decode cJ0_charAt_5068e 8 = .ok (.getfield 9, 3) := by decide +kernel
theorem dJ0_charAt_5068e_11 : decode cJ0_charAt_5068e 11 = .ok (.iload_n 1, 1) := by decide +kernel
theorem dJ0_charAt_5068e_12 : decode cJ0_charAt_5068e 12 = .ok (.invokestatic 495, 3) := by decide +kernel
theorem dJ0_charAt_5068e_15 : decode cJ0_charAt_5068e 15 = .ok (.ireturn, 1) := by decide +kernel
theorem dJ0_charAt_5068e_16 : decode cJ0_charAt_5068e 16 = .ok (.aload_n 0, 1) := by decide +kernel
theorem dJ0_charAt_5068e_17 : decode cJ0_charAt_5068e 17 = .ok (.getfield 9, 3) := by decide +kernel
theorem dJ0_charAt_5068e_20 : decode cJ0_charAt_5068e 20 = .ok (.iload_n 1, 1) := by decide +kernel
theorem dJ0_charAt_5068e_21 : decode cJ0_charAt_5068e 21 = .ok (.invokestatic 498, 3) := by decide +kernel
theorem dJ0_charAt_5068e_24 : decode cJ0_charAt_5068e 24 = .ok (.ireturn, 1) := by decide +kernel
theorem dJ0_indexOf_0f7a4_0 : decode cJ0_indexOf_0f7a4 0 = .ok (.aload_n 0, 1) := by decide +kernel
theorem dJ0_indexOf_0f7a4_1 : decode cJ0_indexOf_0f7a4 1 = .ok (.iload_n 1, 1) := by decide +kernel
theorem dJ0_indexOf_0f7a4_2 : decode cJ0_indexOf_0f7a4 2 = .ok (.iconst 0, 1) := by decide +kernel
theorem dJ0_indexOf_0f7a4_3 : decode cJ0_indexOf_0f7a4 3 = .ok (.invokevirtual 633, 3) := by decide +kernel
theorem dJ0_indexOf_0f7a4_6 : decode cJ0_indexOf_0f7a4 6 = .ok (.ireturn, 1) := by decide +kernel
theorem dJ0_indexOf_7cf53_0 : decode cJ0_indexOf_7cf53 0 = .ok (.aload_n 0, 1) := by decide +kernel
theorem dJ0_indexOf_7cf53_1 : decode cJ0_indexOf_7cf53 1 = .ok (.invokevirtual 492, 3) := by decide +kernel
theorem dJ0_indexOf_7cf53_4 : decode cJ0_indexOf_7cf53 4 = .ok (.ifCond .eq 19, 3) := by decide +kernel
theorem dJ0_indexOf_7cf53_7 : decode cJ0_indexOf_7cf53 7 = .ok (.aload_n 0, 1) := by decide +kernel
theorem dJ0_indexOf_7cf53_8 : decode cJ0_indexOf_7cf53 8 = .ok (.getfield 9, 3) := by decide +kernel
theorem dJ0_indexOf_7cf53_11 : decode cJ0_indexOf_7cf53 11 = .ok (.iload_n 1, 1) := by decide +kernel
theorem dJ0_indexOf_7cf53_12 : decode cJ0_indexOf_7cf53 12 = .ok (.iload_n 2, 1) := by decide +kernel
theorem dJ0_indexOf_7cf53_13 : decode cJ0_indexOf_7cf53 13 = .ok (.aload_n 0, 1) := by decide +kernel
theorem dJ0_indexOf_7cf53_14 : decode cJ0_indexOf_7cf53 14 = .ok (.invokevirtual 505, 3) := by decide +kernel
theorem dJ0_indexOf_7cf53_17 : decode cJ0_indexOf_7cf53 17 = .ok (.invokestatic 637, 3) := by decide +kernel
theorem dJ0_indexOf_7cf53_20 : decode cJ0_indexOf_7cf53 20 = .ok (.goto 16, 3) := by decide +kernel
theorem dJ0_indexOf_7cf53_23 : decode cJ0_indexOf_7cf53 23 = .ok (.aload_n 0, 1) := by decide +kernel
theorem dJ0_indexOf_7cf53_24 : decode cJ0_indexOf_7cf53 24 = .ok (.getfield 9, 3) := by decide +kernel
theorem dJ0_indexOf_7cf53_27 : decode cJ0_indexOf_7cf53 27 = .ok (.iload_n 1, 1) := by decide +kernel
theorem dJ0_indexOf_7cf53_28 : decode cJ0_indexOf_7cf53 28 = .ok (.iload_n 2, 1) := by decide +kernel
theorem dJ0_indexOf_7cf53_29 : decode cJ0_indexOf_7cf53 29 = .ok (.aload_n 0, 1) := by decide +kernel
theorem dJ0_indexOf_7cf53_30 : decode cJ0_indexOf_7cf53 30 = .ok (.invokevirtual 505, 3) := by decide +kernel
theorem dJ0_indexOf_7cf53_33 : decode cJ0_indexOf_7cf53 33 = .ok (.invokestatic 640, 3) := by decide +kernel
theorem dJ0_indexOf_7cf53_36 : decode cJ0_indexOf_7cf53 36 = .ok (.ireturn, 1) := by decide +kernel
theorem dJ0_coder_7d493_0 : decode cJ0_coder_7d493 0 = .ok (.getstatic 38, 3) := by decide +kernel
theorem dJ0_coder_7d493_3 : decode cJ0_coder_7d493 3 = .ok (.ifCond .eq 10, 3) := by decide +kernel
theorem dJ0_coder_7d493_6 : decode cJ0_coder_7d493 6 = .ok (.aload_n 0, 1) := by decide +kernel
theorem dJ0_coder_7d493_7 : decode cJ0_coder_7d493 7 = .ok (.getfield 15, 3) := by decide +kernel
theorem dJ0_coder_7d493_10 : decode cJ0_coder_7d493 10 = .ok (.goto 4, 3) := by decide +kernel
theorem dJ0_coder_7d493_13 : decode cJ0_coder_7d493 13 = .ok (.iconst 1, 1) := by decide +kernel
theorem dJ0_coder_7d493_14 : decode cJ0_coder_7d493 14 = .ok (.ireturn, 1) := by decide +kernel
theorem dJ0_isLatin1_aae02_0 : decode cJ0_isLatin1_aae02 0 = .ok (.getstatic 38, 3) := by decide +kernel
theorem dJ0_isLatin1_aae02_3 : decode cJ0_isLatin1_aae02 3 = .ok (.ifCond .eq 14, 3) := by decide +kernel
theorem dJ0_isLatin1_aae02_6 : decode cJ0_isLatin1_aae02 6 = .ok (.aload_n 0, 1) := by decide +kernel
theorem dJ0_isLatin1_aae02_7 : decode cJ0_isLatin1_aae02 7 = .ok (.getfield 15, 3) := by decide +kernel
theorem dJ0_isLatin1_aae02_10 : decode cJ0_isLatin1_aae02 10 = .ok (.ifCond .ne 7, 3) := by decide +kernel
theorem dJ0_isLatin1_aae02_13 : decode cJ0_isLatin1_aae02 13 = .ok (.iconst 1, 1) := by decide +kernel
theorem dJ0_isLatin1_aae02_14 : decode cJ0_isLatin1_aae02 14 = .ok (.goto 4, 3) := by decide +kernel
theorem dJ0_isLatin1_aae02_17 : decode cJ0_isLatin1_aae02 17 = .ok (.iconst 0, 1) := by decide +kernel
theorem dJ0_isLatin1_aae02_18 : decode cJ0_isLatin1_aae02 18 = .ok (.ireturn, 1) := by decide +kernel
theorem dJ0_checkIndex_df160_0 : decode cJ0_checkIndex_df160 0 = .ok (.iload_n 0, 1) := by decide +kernel
theorem dJ0_checkIndex_df160_1 : decode cJ0_checkIndex_df160 1 = .ok (.iload_n 1, 1) := by decide +kernel
theorem dJ0_checkIndex_df160_2 : decode cJ0_checkIndex_df160 2 = .ok (.getstatic 1053, 3) := by decide +kernel
theorem dJ0_checkIndex_df160_5 : decode cJ0_checkIndex_df160 5 = .ok (.invokestatic 1059, 3) := by decide +kernel
theorem dJ0_checkIndex_df160_8 : decode cJ0_checkIndex_df160 8 = .ok (.pop, 1) := by decide +kernel
theorem dJ0_checkIndex_df160_9 : decode cJ0_checkIndex_df160 9 = .ok (.return_, 1) := by decide +kernel
theorem dJ0_checkBoundsBeginEnd_23922_0 : decode cJ0_checkBoundsBeginEnd_23922 0 = .ok (.iload_n 0, 1) := by decide +kernel
theorem dJ0_checkBoundsBeginEnd_23922_1 : decode cJ0_checkBoundsBeginEnd_23922 1 = .ok (.iload_n 1, 1) := by decide +kernel
theorem dJ0_checkBoundsBeginEnd_23922_2 : decode cJ0_checkBoundsBeginEnd_23922 2 = .ok (.iload_n 2, 1) := by decide +kernel
theorem dJ0_checkBoundsBeginEnd_23922_3 : decode cJ0_checkBoundsBeginEnd_23922 3 = .ok (.getstatic 1053, 3) := by decide +kernel
theorem dJ0_checkBoundsBeginEnd_23922_6 : decode cJ0_checkBoundsBeginEnd_23922 6 = .ok (.invokestatic 1062, 3) := by decide +kernel
theorem dJ0_checkBoundsBeginEnd_23922_9 : decode cJ0_checkBoundsBeginEnd_23922 9 = .ok (.pop, 1) := by decide +kernel
theorem dJ0_checkBoundsBeginEnd_23922_10 : decode cJ0_checkBoundsBeginEnd_23922 10 = .ok (.return_, 1) := by decide +kernel
theorem dJ1_charAt_3b067_0 : decode cJ1_charAt_3b067 0 = .ok (.iload_n 1, 1) := by decide +kernel
theorem dJ1_charAt_3b067_1 : decode cJ1_charAt_3b067 1 = .ok (.aload_n 0, 1) := by decide +kernel
theorem dJ1_charAt_3b067_2 : decode cJ1_charAt_3b067 2 = .ok (.arraylength, 1) := by decide +kernel
theorem dJ1_charAt_3b067_3 : decode cJ1_charAt_3b067 3 = .ok (.invokestatic 9, 3) := by decide +kernel
theorem dJ1_charAt_3b067_6 : decode cJ1_charAt_3b067 6 = .ok (.aload_n 0, 1) := by decide +kernel
theorem dJ1_charAt_3b067_7 : decode cJ1_charAt_3b067 7 = .ok (.iload_n 1, 1) := by decide +kernel
theorem dJ1_charAt_3b067_8 : decode cJ1_charAt_3b067 8 = .ok (.baload, 1) := by decide +kernel
theorem dJ1_charAt_3b067_9 : decode cJ1_charAt_3b067 9 = .ok (.sipush 255, 3) := by decide +kernel
theorem dJ1_charAt_3b067_12 : decode cJ1_charAt_3b067 12 = .ok (.iand, 1) := by decide +kernel
theorem dJ1_charAt_3b067_13 : decode cJ1_charAt_3b067 13 = .ok (.i2c, 1) := by decide +kernel
theorem dJ1_charAt_3b067_14 : decode cJ1_charAt_3b067 14 = .ok (.ireturn, 1) := by decide +kernel
theorem dJ1_canEncode_9a6ad_0 : decode cJ1_canEncode_9a6ad 0 = .ok (.iload_n 0, 1) := by decide +kernel
theorem dJ1_canEncode_9a6ad_1 : decode cJ1_canEncode_9a6ad 1 = .ok (.ifCond .lt 14, 3) := by decide +kernel
theorem dJ1_canEncode_9a6ad_4 : decode cJ1_canEncode_9a6ad 4 = .ok (.iload_n 0, 1) := by decide +kernel
theorem dJ1_canEncode_9a6ad_5 : decode cJ1_canEncode_9a6ad 5 = .ok (.sipush 255, 3) := by decide +kernel
theorem dJ1_canEncode_9a6ad_8 : decode cJ1_canEncode_9a6ad 8 = .ok (.if_icmp .gt 7, 3) := by decide +kernel
theorem dJ1_canEncode_9a6ad_11 : decode cJ1_canEncode_9a6ad 11 = .ok (.iconst 1, 1) := by decide +kernel
theorem dJ1_canEncode_9a6ad_12 : decode cJ1_canEncode_9a6ad 12 = .ok (.goto 4, 3) := by decide +kernel
theorem dJ1_canEncode_9a6ad_15 : decode cJ1_canEncode_9a6ad 15 = .ok (.iconst 0, 1) := by decide +kernel
theorem dJ1_canEncode_9a6ad_16 : decode cJ1_canEncode_9a6ad 16 = .ok (.ireturn, 1) := by decide +kernel
theorem dJ1_indexOf_4cfef_0 : decode cJ1_indexOf_4cfef 0 = .ok (.iload_n 1, 1) := by decide +kernel
theorem dJ1_indexOf_4cfef_1 : decode cJ1_indexOf_4cfef 1 = .ok (.invokestatic 88, 3) := by decide +kernel
theorem dJ1_indexOf_4cfef_4 : decode cJ1_indexOf_4cfef 4 = .ok (.ifCond .ne 5, 3) := by decide +kernel
theorem dJ1_indexOf_4cfef_7 : decode cJ1_indexOf_4cfef 7 = .ok (.iconst (-1), 1) := by decide +kernel
theorem dJ1_indexOf_4cfef_8 : decode cJ1_indexOf_4cfef 8 = .ok (.ireturn, 1) := by decide +kernel
theorem dJ1_indexOf_4cfef_9 : decode cJ1_indexOf_4cfef 9 = .ok (.iload_n 2, 1) := by decide +kernel
theorem dJ1_indexOf_4cfef_10 : decode cJ1_indexOf_4cfef 10 = .ok (.iconst 0, 1) := by decide +kernel
theorem dJ1_indexOf_4cfef_11 : decode cJ1_indexOf_4cfef 11 = .ok (.invokestatic 92, 3) := by decide +kernel
theorem dJ1_indexOf_4cfef_14 : decode cJ1_indexOf_4cfef 14 = .ok (.istore_n 2, 1) := by decide +kernel
theorem dJ1_indexOf_4cfef_15 : decode cJ1_indexOf_4cfef 15 = .ok (.iload_n 3, 1) := by decide +kernel
theorem dJ1_indexOf_4cfef_16 : decode cJ1_indexOf_4cfef 16 = .ok (.aload_n 0, 1) := by decide +kernel
theorem dJ1_indexOf_4cfef_17 : decode cJ1_indexOf_4cfef 17 = .ok (.arraylength, 1) := by decide +kernel
theorem dJ1_indexOf_4cfef_18 : decode cJ1_indexOf_4cfef 18 = .ok (.invokestatic 38, 3) := by decide +kernel
theorem dJ1_indexOf_4cfef_21 : decode cJ1_indexOf_4cfef 21 = .ok (.istore_n 3, 1) := by decide +kernel
theorem dJ1_indexOf_4cfef_22 : decode cJ1_indexOf_4cfef 22 = .ok (.iload_n 2, 1) := by decide +kernel
theorem dJ1_indexOf_4cfef_23 : decode cJ1_indexOf_4cfef 23 = .ok (.iload_n 3, 1) := by decide +kernel
theorem dJ1_indexOf_4cfef_24 : decode cJ1_indexOf_4cfef 24 = .ok (.if_icmp .lt 5, 3) := by decide +kernel
theorem dJ1_indexOf_4cfef_27 : decode cJ1_indexOf_4cfef 27 = .ok (.iconst (-1), 1) := by decide +kernel
theorem dJ1_indexOf_4cfef_28 : decode cJ1_indexOf_4cfef 28 = .ok (.ireturn, 1) := by decide +kernel
theorem dJ1_indexOf_4cfef_29 : decode cJ1_indexOf_4cfef 29 = .ok (.aload_n 0, 1) := by decide +kernel
theorem dJ1_indexOf_4cfef_30 : decode cJ1_indexOf_4cfef 30 = .ok (.iload_n 1, 1) := by decide +kernel
theorem dJ1_indexOf_4cfef_31 : decode cJ1_indexOf_4cfef 31 = .ok (.iload_n 2, 1) := by decide +kernel
theorem dJ1_indexOf_4cfef_32 : decode cJ1_indexOf_4cfef 32 = .ok (.iload_n 3, 1) := by decide +kernel
theorem dJ1_indexOf_4cfef_33 : decode cJ1_indexOf_4cfef 33 = .ok (.invokestatic 95, 3) := by decide +kernel
theorem dJ1_indexOf_4cfef_36 : decode cJ1_indexOf_4cfef 36 = .ok (.ireturn, 1) := by decide +kernel
theorem dJ1_indexOfChar_4cfef_0 : decode cJ1_indexOfChar_4cfef 0 = .ok (.iload_n 1, 1) := by decide +kernel
theorem dJ1_indexOfChar_4cfef_1 : decode cJ1_indexOfChar_4cfef 1 = .ok (.i2b, 1) := by decide +kernel
theorem dJ1_indexOfChar_4cfef_2 : decode cJ1_indexOfChar_4cfef 2 = .ok (.istore 4, 2) := by decide +kernel
theorem dJ1_indexOfChar_4cfef_4 : decode cJ1_indexOfChar_4cfef 4 = .ok (.iload_n 2, 1) := by decide +kernel
theorem dJ1_indexOfChar_4cfef_5 : decode cJ1_indexOfChar_4cfef 5 = .ok (.istore 5, 2) := by decide +kernel
theorem dJ1_indexOfChar_4cfef_7 : decode cJ1_indexOfChar_4cfef 7 = .ok (.iload 5, 2) := by decide +kernel
theorem dJ1_indexOfChar_4cfef_9 : decode cJ1_indexOfChar_4cfef 9 = .ok (.iload_n 3, 1) := by decide +kernel
theorem dJ1_indexOfChar_4cfef_10 : decode cJ1_indexOfChar_4cfef 10 = .ok (.if_icmp .ge 21, 3) := by decide +kernel
theorem dJ1_indexOfChar_4cfef_13 : decode cJ1_indexOfChar_4cfef 13 = .ok (.aload_n 0, 1) := by decide +kernel
theorem dJ1_indexOfChar_4cfef_14 : decode cJ1_indexOfChar_4cfef 14 = .ok (.iload 5, 2) := by decide +kernel
theorem dJ1_indexOfChar_4cfef_16 : decode cJ1_indexOfChar_4cfef 16 = .ok (.baload, 1) := by decide +kernel
theorem dJ1_indexOfChar_4cfef_17 : decode cJ1_indexOfChar_4cfef 17 = .ok (.iload 4, 2) := by decide +kernel
theorem dJ1_indexOfChar_4cfef_19 : decode cJ1_indexOfChar_4cfef 19 = .ok (.if_icmp .ne 6, 3) := by decide +kernel
theorem dJ1_indexOfChar_4cfef_22 : decode cJ1_indexOfChar_4cfef 22 = .ok (.iload 5, 2) := by decide +kernel
theorem dJ1_indexOfChar_4cfef_24 : decode cJ1_indexOfChar_4cfef 24 = .ok (.ireturn, 1) := by decide +kernel
theorem dJ1_indexOfChar_4cfef_25 : decode cJ1_indexOfChar_4cfef 25 = .ok (.iinc 5 1, 3) := by decide +kernel
theorem dJ1_indexOfChar_4cfef_28 : decode cJ1_indexOfChar_4cfef 28 = .ok (.goto (-21), 3) := by decide +kernel
theorem dJ1_indexOfChar_4cfef_31 : decode cJ1_indexOfChar_4cfef 31 = .ok (.iconst (-1), 1) := by decide +kernel
theorem dJ1_indexOfChar_4cfef_32 : decode cJ1_indexOfChar_4cfef 32 = .ok (.ireturn, 1) := by decide +kernel
theorem dJ2_getChar_3b067_0 : decode cJ2_getChar_3b067 0 = .ok (.getstatic 44, 3) := by decide +kernel
theorem dJ2_getChar_3b067_3 : decode cJ2_getChar_3b067 3 = .ok (.ifCond .ne 25, 3) := by decide +kernel
theorem dJ2_getChar_3b067_6 : decode cJ2_getChar_3b067 6 = .ok (.iload_n 1, 1) := by decide +kernel
theorem dJ2_getChar_3b067_7 : decode cJ2_getChar_3b067 7 = .ok (.ifCond .lt 11, 3) := by decide +kernel
theorem dJ2_getChar_3b067_10 : decode cJ2_getChar_3b067 10 = .ok (.iload_n 1, 1) := by decide +kernel
theorem dJ2_getChar_3b067_11 : decode cJ2_getChar_3b067 11 = .ok (.aload_n 0, 1) := by decide +kernel
theorem dJ2_getChar_3b067_12 : decode cJ2_getChar_3b067 12 = .ok (.invokestatic 48, 3) := by decide +kernel
theorem dJ2_getChar_3b067_15 : decode cJ2_getChar_3b067 15 = .ok (.if_icmp .lt 13, 3) := by decide +kernel
theorem dJ2_getChar_3b067_18 : decode cJ2_getChar_3b067 18 = .ok (.new 52, 3) := by decide +kernel
theorem dJ2_getChar_3b067_21 : decode cJ2_getChar_3b067 21 = .ok (.dup, 1) := by decide +kernel
theorem dJ2_getChar_3b067_22 : decode cJ2_getChar_3b067 22 = .ok (.ldc 54, 2) := by decide +kernel
theorem dJ2_getChar_3b067_24 : decode cJ2_getChar_3b067 24 = .ok (.invokespecial 56, 3) := by decide +kernel
theorem dJ2_getChar_3b067_27 : decode cJ2_getChar_3b067 27 = .ok (.athrow, 1) := by decide +kernel
theorem dJ2_getChar_3b067_28 : decode cJ2_getChar_3b067 28 = .ok (.iload_n 1, 1) := by decide +kernel
theorem dJ2_getChar_3b067_29 : decode cJ2_getChar_3b067 29 = .ok (.iconst 1, 1) := by decide +kernel
theorem dJ2_getChar_3b067_30 : decode cJ2_getChar_3b067 30 = .ok (.ishl, 1) := by decide +kernel
theorem dJ2_getChar_3b067_31 : decode cJ2_getChar_3b067 31 = .ok (.istore_n 1, 1) := by decide +kernel
theorem dJ2_getChar_3b067_32 : decode cJ2_getChar_3b067 32 = .ok (.aload_n 0, 1) := by decide +kernel
theorem dJ2_getChar_3b067_33 : decode cJ2_getChar_3b067 33 = .ok (.iload_n 1, 1) := by decide +kernel
theorem dJ2_getChar_3b067_34 : decode cJ2_getChar_3b067 34 = .ok (.iinc 1 1, 3) := by decide +kernel
theorem dJ2_getChar_3b067_37 : decode cJ2_getChar_3b067 37 = .ok (.baload, 1) := by decide +kernel
theorem dJ2_getChar_3b067_38 : decode cJ2_getChar_3b067 38 = .ok (.sipush 255, 3) := by decide +kernel
theorem dJ2_getChar_3b067_41 : decode cJ2_getChar_3b067 41 = .ok (.iand, 1) := by decide +kernel
theorem dJ2_getChar_3b067_42 : decode cJ2_getChar_3b067 42 = .ok (.getstatic 59, 3) := by decide +kernel
theorem dJ2_getChar_3b067_45 : decode cJ2_getChar_3b067 45 = .ok (.ishl, 1) := by decide +kernel
theorem dJ2_getChar_3b067_46 : decode cJ2_getChar_3b067 46 = .ok (.aload_n 0, 1) := by decide +kernel
theorem dJ2_getChar_3b067_47 : decode cJ2_getChar_3b067 47 = .ok (.iload_n 1, 1) := by decide +kernel
theorem dJ2_getChar_3b067_48 : decode cJ2_getChar_3b067 48 = .ok (.baload, 1) := by decide +kernel
theorem dJ2_getChar_3b067_49 : decode cJ2_getChar_3b067 49 = .ok (.sipush 255, 3) := by decide +kernel
theorem dJ2_getChar_3b067_52 : decode cJ2_getChar_3b067 52 = .ok (.iand, 1) := by decide +kernel
theorem dJ2_getChar_3b067_53 : decode cJ2_getChar_3b067 53 = .ok (.getstatic 63, 3) := by decide +kernel
theorem dJ2_getChar_3b067_56 : decode cJ2_getChar_3b067 56 = .ok (.ishl, 1) := by decide +kernel
theorem dJ2_getChar_3b067_57 : decode cJ2_getChar_3b067 57 = .ok (.ior, 1) := by decide +kernel
theorem dJ2_getChar_3b067_58 : decode cJ2_getChar_3b067 58 = .ok (.i2c, 1) := by decide +kernel
theorem dJ2_getChar_3b067_59 : decode cJ2_getChar_3b067 59 = .ok (.ireturn, 1) := by decide +kernel
theorem dJ2_length_9d52b_0 : decode cJ2_length_9d52b 0 = .ok (.aload_n 0, 1) := by decide +kernel
theorem dJ2_length_9d52b_1 : decode cJ2_length_9d52b 1 = .ok (.arraylength, 1) := by decide +kernel
theorem dJ2_length_9d52b_2 : decode cJ2_length_9d52b 2 = .ok (.iconst 1, 1) := by decide +kernel
theorem dJ2_length_9d52b_3 : decode cJ2_length_9d52b 3 = .ok (.ishr, 1) := by decide +kernel
theorem dJ2_length_9d52b_4 : decode cJ2_length_9d52b 4 = .ok (.ireturn, 1) := by decide +kernel
theorem dJ2_indexOf_4cfef_0 : decode cJ2_indexOf_4cfef 0 = .ok (.iload_n 2, 1) := by decide +kernel
theorem dJ2_indexOf_4cfef_1 : decode cJ2_indexOf_4cfef 1 = .ok (.iconst 0, 1) := by decide +kernel
theorem dJ2_indexOf_4cfef_2 : decode cJ2_indexOf_4cfef 2 = .ok (.invokestatic 224, 3) := by decide +kernel
theorem dJ2_indexOf_4cfef_5 : decode cJ2_indexOf_4cfef 5 = .ok (.istore_n 2, 1) := by decide +kernel
theorem dJ2_indexOf_4cfef_6 : decode cJ2_indexOf_4cfef 6 = .ok (.iload_n 3, 1) := by decide +kernel
theorem dJ2_indexOf_4cfef_7 : decode cJ2_indexOf_4cfef 7 = .ok (.aload_n 0, 1) := by decide +kernel
theorem dJ2_indexOf_4cfef_8 : decode cJ2_indexOf_4cfef 8 = .ok (.arraylength, 1) := by decide +kernel
theorem dJ2_indexOf_4cfef_9 : decode cJ2_indexOf_4cfef 9 = .ok (.iconst 1, 1) := by decide +kernel
theorem dJ2_indexOf_4cfef_10 : decode cJ2_indexOf_4cfef 10 = .ok (.ishr, 1) := by decide +kernel
theorem dJ2_indexOf_4cfef_11 : decode cJ2_indexOf_4cfef 11 = .ok (.invokestatic 183, 3) := by decide +kernel
theorem dJ2_indexOf_4cfef_14 : decode cJ2_indexOf_4cfef 14 = .ok (.istore_n 3, 1) := by decide +kernel
theorem dJ2_indexOf_4cfef_15 : decode cJ2_indexOf_4cfef 15 = .ok (.iload_n 2, 1) := by decide +kernel
theorem dJ2_indexOf_4cfef_16 : decode cJ2_indexOf_4cfef 16 = .ok (.iload_n 3, 1) := by decide +kernel
theorem dJ2_indexOf_4cfef_17 : decode cJ2_indexOf_4cfef 17 = .ok (.if_icmp .lt 5, 3) := by decide +kernel
theorem dJ2_indexOf_4cfef_20 : decode cJ2_indexOf_4cfef 20 = .ok (.iconst (-1), 1) := by decide +kernel
theorem dJ2_indexOf_4cfef_21 : decode cJ2_indexOf_4cfef 21 = .ok (.ireturn, 1) := by decide +kernel
theorem dJ2_indexOf_4cfef_22 : decode cJ2_indexOf_4cfef 22 = .ok (.iload_n 1, 1) := by decide +kernel
theorem dJ2_indexOf_4cfef_23 : decode cJ2_indexOf_4cfef 23 = .ok (.ldc 227, 2) := by decide +kernel
theorem dJ2_indexOf_4cfef_25 : decode cJ2_indexOf_4cfef 25 = .ok (.if_icmp .ge 11, 3) := by decide +kernel
theorem dJ2_indexOf_4cfef_28 : decode cJ2_indexOf_4cfef 28 = .ok (.aload_n 0, 1) := by decide +kernel
theorem dJ2_indexOf_4cfef_29 : decode cJ2_indexOf_4cfef 29 = .ok (.iload_n 1, 1) := by decide +kernel
theorem dJ2_indexOf_4cfef_30 : decode cJ2_indexOf_4cfef 30 = .ok (.iload_n 2, 1) := by decide +kernel
theorem dJ2_indexOf_4cfef_31 : decode cJ2_indexOf_4cfef 31 = .ok (.iload_n 3, 1) := by decide +kernel
theorem dJ2_indexOf_4cfef_32 : decode cJ2_indexOf_4cfef 32 = .ok (.invokestatic 228, 3) := by decide +kernel
theorem dJ2_indexOf_4cfef_35 : decode cJ2_indexOf_4cfef 35 = .ok (.ireturn, 1) := by decide +kernel
theorem dJ2_indexOf_4cfef_36 : decode cJ2_indexOf_4cfef 36 = .ok (.aload_n 0, 1) := by decide +kernel
theorem dJ2_indexOf_4cfef_37 : decode cJ2_indexOf_4cfef 37 = .ok (.iload_n 1, 1) := by decide +kernel
theorem dJ2_indexOf_4cfef_38 : decode cJ2_indexOf_4cfef 38 = .ok (.iload_n 2, 1) := by decide +kernel
theorem dJ2_indexOf_4cfef_39 : decode cJ2_indexOf_4cfef 39 = .ok (.iload_n 3, 1) := by decide +kernel
theorem dJ2_indexOf_4cfef_40 : decode cJ2_indexOf_4cfef 40 = .ok (.invokestatic 232, 3) := by decide +kernel
theorem dJ2_indexOf_4cfef_43 : decode cJ2_indexOf_4cfef 43 = .ok (.ireturn, 1) := by decide +kernel
theorem dJ2_indexOfChar_4cfef_0 : decode cJ2_indexOfChar_4cfef 0 = .ok (.iload_n 2, 1) := by decide +kernel
theorem dJ2_indexOfChar_4cfef_1 : decode cJ2_indexOfChar_4cfef 1 = .ok (.iload_n 3, 1) := by decide +kernel
theorem dJ2_indexOfChar_4cfef_2 : decode cJ2_indexOfChar_4cfef 2 = .ok (.aload_n 0, 1) := by decide +kernel
theorem dJ2_indexOfChar_4cfef_3 : decode cJ2_indexOfChar_4cfef 3 = .ok (.invokestatic 96, 3) := by decide +kernel
theorem dJ2_indexOfChar_4cfef_6 : decode cJ2_indexOfChar_4cfef 6 = .ok (.aload_n 0, 1) := by decide +kernel
theorem dJ2_indexOfChar_4cfef_7 : decode cJ2_indexOfChar_4cfef 7 = .ok (.iload_n 1, 1) := by decide +kernel
theorem dJ2_indexOfChar_4cfef_8 : decode cJ2_indexOfChar_4cfef 8 = .ok (.iload_n 2, 1) := by decide +kernel
theorem dJ2_indexOfChar_4cfef_9 : decode cJ2_indexOfChar_4cfef 9 = .ok (.iload_n 3, 1) := by decide +kernel
theorem dJ2_indexOfChar_4cfef_10 : decode cJ2_indexOfChar_4cfef 10 = .ok (.invokestatic 244, 3) := by decide +kernel
theorem dJ2_indexOfChar_4cfef_13 : decode cJ2_indexOfChar_4cfef 13 = .ok (.ireturn, 1) := by decide +kernel
theorem dJ2_indexOfCharUnsafe_4cfef_0 : decode cJ2_indexOfCharUnsafe_4cfef 0 = .ok (.iload_n 2, 1) := by decide +kernel
theorem dJ2_indexOfCharUnsafe_4cfef_1 : decode cJ2_indexOfCharUnsafe_4cfef 1 = .ok (.istore 4, 2) := by decide +kernel
theorem dJ2_indexOfCharUnsafe_4cfef_3 : decode cJ2_indexOfCharUnsafe_4cfef 3 = .ok (.iload 4, 2) := by decide +kernel
theorem dJ2_indexOfCharUnsafe_4cfef_5 : decode cJ2_indexOfCharUnsafe_4cfef 5 = .ok (.iload_n 3, 1) := by decide +kernel
theorem dJ2_indexOfCharUnsafe_4cfef_6 : decode cJ2_indexOfCharUnsafe_4cfef 6 = .ok (.if_icmp .ge 22, 3) := by decide +kernel
theorem dJ2_indexOfCharUnsafe_4cfef_9 : decode cJ2_indexOfCharUnsafe_4cfef 9 = .ok (.aload_n 0, 1) := by decide +kernel
theorem dJ2_indexOfCharUnsafe_4cfef_10 : decode cJ2_indexOfCharUnsafe_4cfef 10 = .ok (.iload 4, 2) := by decide +kernel
theorem dJ2_indexOfCharUnsafe_4cfef_12 : decode cJ2_indexOfCharUnsafe_4cfef 12 = .ok (.invokestatic 71, 3) := by decide +kernel
theorem dJ2_indexOfCharUnsafe_4cfef_15 : decode cJ2_indexOfCharUnsafe_4cfef 15 = .ok (.iload_n 1, 1) := by decide +kernel
theorem dJ2_indexOfCharUnsafe_4cfef_16 : decode cJ2_indexOfCharUnsafe_4cfef 16 = .ok (.if_icmp .ne 6, 3) := by decide +kernel
theorem dJ2_indexOfCharUnsafe_4cfef_19 : decode cJ2_indexOfCharUnsafe_4cfef 19 = .ok (.iload 4, 2) := by decide +kernel
theorem dJ2_indexOfCharUnsafe_4cfef_21 : decode cJ2_indexOfCharUnsafe_4cfef 21 = .ok (.ireturn, 1) := by decide +kernel
theorem dJ2_indexOfCharUnsafe_4cfef_22 : decode cJ2_indexOfCharUnsafe_4cfef 22 = .ok (.iinc 4 1, 3) := by decide +kernel
theorem dJ2_indexOfCharUnsafe_4cfef_25 : decode cJ2_indexOfCharUnsafe_4cfef 25 = .ok (.goto (-22), 3) := by decide +kernel
theorem dJ2_indexOfCharUnsafe_4cfef_28 : decode cJ2_indexOfCharUnsafe_4cfef 28 = .ok (.iconst (-1), 1) := by decide +kernel
theorem dJ2_indexOfCharUnsafe_4cfef_29 : decode cJ2_indexOfCharUnsafe_4cfef 29 = .ok (.ireturn, 1) := by decide +kernel
theorem dJ2_indexOfSupplementary_4cfef_0 : decode cJ2_indexOfSupplementary_4cfef 0 = .ok (.iload_n 1, 1) := by decide +kernel
theorem dJ2_indexOfSupplementary_4cfef_1 : decode cJ2_indexOfSupplementary_4cfef 1 = .ok (.invokestatic 164, 3) := by decide +kernel
theorem dJ2_indexOfSupplementary_4cfef_4 : decode cJ2_indexOfSupplementary_4cfef 4 = .ok (.ifCond .eq 65, 3) := by decide +kernel
theorem dJ2_indexOfSupplementary_4cfef_7 : decode cJ2_indexOfSupplementary_4cfef 7 = .ok (.iload_n 1, 1) := by decide +kernel
theorem dJ2_indexOfSupplementary_4cfef_8 : decode cJ2_indexOfSupplementary_4cfef 8 = .ok (.invokestatic 157, 3) := by decide +kernel
theorem dJ2_indexOfSupplementary_4cfef_11 : decode cJ2_indexOfSupplementary_4cfef 11 = .ok (.istore 4, 2) := by decide +kernel
theorem dJ2_indexOfSupplementary_4cfef_13 : decode cJ2_indexOfSupplementary_4cfef 13 = .ok (.iload_n 1, 1) := by decide +kernel
theorem dJ2_indexOfSupplementary_4cfef_14 : decode cJ2_indexOfSupplementary_4cfef 14 = .ok (.invokestatic 161, 3) := by decide +kernel
theorem dJ2_indexOfSupplementary_4cfef_17 : decode cJ2_indexOfSupplementary_4cfef 17 = .ok (.istore 5, 2) := by decide +kernel
theorem dJ2_indexOfSupplementary_4cfef_19 : decode cJ2_indexOfSupplementary_4cfef 19 = .ok (.iload_n 2, 1) := by decide +kernel
theorem dJ2_indexOfSupplementary_4cfef_20 : decode cJ2_indexOfSupplementary_4cfef 20 = .ok (.iload_n 3, 1) := by decide +kernel
theorem dJ2_indexOfSupplementary_4cfef_21 : decode cJ2_indexOfSupplementary_4cfef 21 = .ok (.aload_n 0, 1) := by decide +kernel
theorem dJ2_indexOfSupplementary_4cfef_22 : decode cJ2_indexOfSupplementary_4cfef 22 = .ok (.invokestatic 96, 3) := by decide +kernel
theorem dJ2_indexOfSupplementary_4cfef_25 : decode cJ2_indexOfSupplementary_4cfef 25 = .ok (.iload_n 2, 1) := by decide +kernel
theorem dJ2_indexOfSupplementary_4cfef_26 : decode cJ2_indexOfSupplementary_4cfef 26 = .ok (.istore 6, 2) := by decide +kernel
theorem dJ2_indexOfSupplementary_4cfef_28 : decode cJ2_indexOfSupplementary_4cfef 28 = .ok (.iload 6, 2) := by decide +kernel
theorem dJ2_indexOfSupplementary_4cfef_30 : decode cJ2_indexOfSupplementary_4cfef 30 = .ok (.iload_n 3, 1) := by decide +kernel
theorem dJ2_indexOfSupplementary_4cfef_31 : decode cJ2_indexOfSupplementary_4cfef 31 = .ok (.iconst 1, 1) := by decide +kernel
theorem dJ2_indexOfSupplementary_4cfef_32 : decode cJ2_indexOfSupplementary_4cfef 32 = .ok (.isub, 1) := by decide +kernel
theorem dJ2_indexOfSupplementary_4cfef_33 : decode cJ2_indexOfSupplementary_4cfef 33 = .ok (.if_icmp .ge 36, 3) := by decide +kernel
theorem dJ2_indexOfSupplementary_4cfef_36 : decode cJ2_indexOfSupplementary_4cfef 36 = .ok (.aload_n 0, 1) := by decide +kernel
theorem dJ2_indexOfSupplementary_4cfef_37 : decode cJ2_indexOfSupplementary_4cfef 37 = .ok (.iload 6, 2) := by decide +kernel
theorem dJ2_indexOfSupplementary_4cfef_39 : decode cJ2_indexOfSupplementary_4cfef 39 = .ok (.invokestatic 71, 3) := by decide +kernel
theorem dJ2_indexOfSupplementary_4cfef_42 : decode cJ2_indexOfSupplementary_4cfef 42 = .ok (.iload 4, 2) := by decide +kernel
theorem dJ2_indexOfSupplementary_4cfef_44 : decode cJ2_indexOfSupplementary_4cfef 44 = .ok (.if_icmp .ne 19, 3) := by decide +kernel
theorem dJ2_indexOfSupplementary_4cfef_47 : decode cJ2_indexOfSupplementary_4cfef 47 = .ok (.aload_n 0, 1) := by decide +kernel
theorem dJ2_indexOfSupplementary_4cfef_48 : decode cJ2_indexOfSupplementary_4cfef 48 = .ok (.iload 6, 2) := by decide +kernel
theorem dJ2_indexOfSupplementary_4cfef_50 : decode cJ2_indexOfSupplementary_4cfef 50 = .ok (.iconst 1, 1) := by decide +kernel
theorem dJ2_indexOfSupplementary_4cfef_51 : decode cJ2_indexOfSupplementary_4cfef 51 = .ok (.iadd, 1) := by decide +kernel
theorem dJ2_indexOfSupplementary_4cfef_52 : decode cJ2_indexOfSupplementary_4cfef 52 = .ok (.invokestatic 71, 3) := by decide +kernel
theorem dJ2_indexOfSupplementary_4cfef_55 : decode cJ2_indexOfSupplementary_4cfef 55 = .ok (.iload 5, 2) := by decide +kernel
theorem dJ2_indexOfSupplementary_4cfef_57 : decode cJ2_indexOfSupplementary_4cfef 57 = .ok (.if_icmp .ne 6, 3) := by decide +kernel
theorem dJ2_indexOfSupplementary_4cfef_60 : decode cJ2_indexOfSupplementary_4cfef 60 = .ok (.iload 6, 2) := by decide +kernel
theorem dJ2_indexOfSupplementary_4cfef_62 : decode cJ2_indexOfSupplementary_4cfef 62 = .ok (.ireturn, 1) := by decide +kernel
theorem dJ2_indexOfSupplementary_4cfef_63 : decode cJ2_indexOfSupplementary_4cfef 63 = .ok (.iinc 6 1, 3) := by decide +kernel
theorem dJ2_indexOfSupplementary_4cfef_66 : decode cJ2_indexOfSupplementary_4cfef 66 = .ok (.goto (-38), 3) := by decide +kernel
theorem dJ2_indexOfSupplementary_4cfef_69 : decode cJ2_indexOfSupplementary_4cfef 69 = .ok (.iconst (-1), 1) := by decide +kernel
theorem dJ2_indexOfSupplementary_4cfef_70 : decode cJ2_indexOfSupplementary_4cfef 70 = .ok (.ireturn, 1) := by decide +kernel
theorem dJ2_charAt_3b067_0 : decode cJ2_charAt_3b067 0 = .ok (.iload_n 1, 1) := by decide +kernel
theorem dJ2_charAt_3b067_1 : decode cJ2_charAt_3b067 1 = .ok (.aload_n 0, 1) := by decide +kernel
theorem dJ2_charAt_3b067_2 : decode cJ2_charAt_3b067 2 = .ok (.invokestatic 67, 3) := by decide +kernel
theorem dJ2_charAt_3b067_5 : decode cJ2_charAt_3b067 5 = .ok (.aload_n 0, 1) := by decide +kernel
theorem dJ2_charAt_3b067_6 : decode cJ2_charAt_3b067 6 = .ok (.iload_n 1, 1) := by decide +kernel
theorem dJ2_charAt_3b067_7 : decode cJ2_charAt_3b067 7 = .ok (.invokestatic 71, 3) := by decide +kernel
theorem dJ2_charAt_3b067_10 : decode cJ2_charAt_3b067 10 = .ok (.ireturn, 1) := by decide +kernel
theorem dJ2_checkIndex_2214a_0 : decode cJ2_checkIndex_2214a 0 = .ok (.iload_n 0, 1) := by decide +kernel
theorem dJ2_checkIndex_2214a_1 : decode cJ2_checkIndex_2214a 1 = .ok (.aload_n 1, 1) := by decide +kernel
theorem dJ2_checkIndex_2214a_2 : decode cJ2_checkIndex_2214a 2 = .ok (.invokestatic 48, 3) := by decide +kernel
theorem dJ2_checkIndex_2214a_5 : decode cJ2_checkIndex_2214a 5 = .ok (.invokestatic 414, 3) := by decide +kernel
theorem dJ2_checkIndex_2214a_8 : decode cJ2_checkIndex_2214a 8 = .ok (.return_, 1) := by decide +kernel
theorem dJ2_checkBoundsBeginEnd_d044e_0 : decode cJ2_checkBoundsBeginEnd_d044e 0 = .ok (.iload_n 0, 1) := by decide +kernel
theorem dJ2_checkBoundsBeginEnd_d044e_1 : decode cJ2_checkBoundsBeginEnd_d044e 1 = .ok (.iload_n 1, 1) := by decide +kernel
theorem dJ2_checkBoundsBeginEnd_d044e_2 : decode cJ2_checkBoundsBeginEnd_d044e 2 = .ok (.aload_n 2, 1) := by decide +kernel
theorem dJ2_checkBoundsBeginEnd_d044e_3 : decode cJ2_checkBoundsBeginEnd_d044e 3 = .ok (.invokestatic 48, 3) := by decide +kernel
theorem dJ2_checkBoundsBeginEnd_d044e_6 : decode cJ2_checkBoundsBeginEnd_d044e 6 = .ok (.invokestatic 241, 3) := by decide +kernel
theorem dJ2_checkBoundsBeginEnd_d044e_9 : decode cJ2_checkBoundsBeginEnd_d044e 9 = .ok (.return_, 1) := by decide +kernel
theorem dJ3_checkIndex_8e157_0 : decode cJ3_checkIndex_8e157 0 = .ok (.iload_n 0, 1) := by decide +kernel
theorem dJ3_checkIndex_8e157_1 : decode cJ3_checkIndex_8e157 1 = .ok (.ifCond .lt 8, 3) := by decide +kernel
theorem dJ3_checkIndex_8e157_4 : decode cJ3_checkIndex_8e157 4 = .ok (.iload_n 0, 1) := by decide +kernel
theorem dJ3_checkIndex_8e157_5 : decode cJ3_checkIndex_8e157 5 = .ok (.iload_n 1, 1) := by decide +kernel
theorem dJ3_checkIndex_8e157_6 : decode cJ3_checkIndex_8e157 6 = .ok (.if_icmp .lt 10, 3) := by decide +kernel
theorem dJ3_checkIndex_8e157_9 : decode cJ3_checkIndex_8e157 9 = .ok (.aload_n 2, 1) := by decide +kernel
theorem dJ3_checkIndex_8e157_10 : decode cJ3_checkIndex_8e157 10 = .ok (.iload_n 0, 1) := by decide +kernel
theorem dJ3_checkIndex_8e157_11 : decode cJ3_checkIndex_8e157 11 = .ok (.iload_n 1, 1) := by decide +kernel
theorem dJ3_checkIndex_8e157_12 : decode cJ3_checkIndex_8e157 12 = .ok (.invokestatic 95, 3) := by decide +kernel
theorem dJ3_checkIndex_8e157_15 : decode cJ3_checkIndex_8e157 15 = .ok (.athrow, 1) := by decide +kernel
theorem dJ3_checkIndex_8e157_16 : decode cJ3_checkIndex_8e157 16 = .ok (.iload_n 0, 1) := by decide +kernel
theorem dJ3_checkIndex_8e157_17 : decode cJ3_checkIndex_8e157 17 = .ok (.ireturn, 1) := by decide +kernel
theorem dJ3_checkFromToIndex_8c36e_0 : decode cJ3_checkFromToIndex_8c36e 0 = .ok (.iload_n 0, 1) := by decide +kernel
theorem dJ3_checkFromToIndex_8c36e_1 : decode cJ3_checkFromToIndex_8c36e 1 = .ok (.ifCond .lt 13, 3) := by decide +kernel
theorem dJ3_checkFromToIndex_8c36e_4 : decode cJ3_checkFromToIndex_8c36e 4 = .ok (.iload_n 0, 1) := by decide +kernel
theorem dJ3_checkFromToIndex_8c36e_5 : decode cJ3_checkFromToIndex_8c36e 5 = .ok (.iload_n 1, 1) := by decide +kernel
theorem dJ3_checkFromToIndex_8c36e_6 : decode cJ3_checkFromToIndex_8c36e 6 = .ok (.if_icmp .gt 8, 3) := by decide +kernel
theorem dJ3_checkFromToIndex_8c36e_9 : decode cJ3_checkFromToIndex_8c36e 9 = .ok (.iload_n 1, 1) := by decide +kernel
theorem dJ3_checkFromToIndex_8c36e_10 : decode cJ3_checkFromToIndex_8c36e 10 = .ok (.iload_n 2, 1) := by decide +kernel
theorem dJ3_checkFromToIndex_8c36e_11 : decode cJ3_checkFromToIndex_8c36e 11 = .ok (.if_icmp .le 11, 3) := by decide +kernel
theorem dJ3_checkFromToIndex_8c36e_14 : decode cJ3_checkFromToIndex_8c36e 14 = .ok (.aload_n 3, 1) := by decide +kernel
theorem dJ3_checkFromToIndex_8c36e_15 : decode cJ3_checkFromToIndex_8c36e 15 = .ok (.iload_n 0, 1) := by decide +kernel
theorem dJ3_checkFromToIndex_8c36e_16 : decode cJ3_checkFromToIndex_8c36e 16 = .ok (.iload_n 1, 1) := by decide +kernel
theorem dJ3_checkFromToIndex_8c36e_17 : decode cJ3_checkFromToIndex_8c36e 17 = .ok (.iload_n 2, 1) := by decide +kernel
theorem dJ3_checkFromToIndex_8c36e_18 : decode cJ3_checkFromToIndex_8c36e 18 = .ok (.invokestatic 99, 3) := by decide +kernel
theorem dJ3_checkFromToIndex_8c36e_21 : decode cJ3_checkFromToIndex_8c36e 21 = .ok (.athrow, 1) := by decide +kernel
theorem dJ3_checkFromToIndex_8c36e_22 : decode cJ3_checkFromToIndex_8c36e 22 = .ok (.iload_n 0, 1) := by decide +kernel
theorem dJ3_checkFromToIndex_8c36e_23 : decode cJ3_checkFromToIndex_8c36e 23 = .ok (.ireturn, 1) := by decide +kernel
theorem dJ6_bitCount_0f7a4_0 : decode cJ6_bitCount_0f7a4 0 = .ok (.iload_n 0, 1) := by decide +kernel
theorem dJ6_bitCount_0f7a4_1 : decode cJ6_bitCount_0f7a4 1 = .ok (.iload_n 0, 1) := by decide +kernel
theorem dJ6_bitCount_0f7a4_2 : decode cJ6_bitCount_0f7a4 2 = .ok (.iconst 1, 1) := by decide +kernel
theorem dJ6_bitCount_0f7a4_3 : decode cJ6_bitCount_0f7a4 3 = .ok (.iushr, 1) := by decide +kernel
theorem dJ6_bitCount_0f7a4_4 : decode cJ6_bitCount_0f7a4 4 = .ok (.ldc_w 265, 3) := by decide +kernel
theorem dJ6_bitCount_0f7a4_7 : decode cJ6_bitCount_0f7a4 7 = .ok (.iand, 1) := by decide +kernel
theorem dJ6_bitCount_0f7a4_8 : decode cJ6_bitCount_0f7a4 8 = .ok (.isub, 1) := by decide +kernel
theorem dJ6_bitCount_0f7a4_9 : decode cJ6_bitCount_0f7a4 9 = .ok (.istore_n 0, 1) := by decide +kernel
theorem dJ6_bitCount_0f7a4_10 : decode cJ6_bitCount_0f7a4 10 = .ok (.iload_n 0, 1) := by decide +kernel
theorem dJ6_bitCount_0f7a4_11 : decode cJ6_bitCount_0f7a4 11 = .ok (.ldc_w 266, 3) := by decide +kernel
theorem dJ6_bitCount_0f7a4_14 : decode cJ6_bitCount_0f7a4 14 = .ok (.iand, 1) := by decide +kernel
theorem dJ6_bitCount_0f7a4_15 : decode cJ6_bitCount_0f7a4 15 = .ok (.iload_n 0, 1) := by decide +kernel
theorem dJ6_bitCount_0f7a4_16 : decode cJ6_bitCount_0f7a4 16 = .ok (.iconst 2, 1) := by decide +kernel
theorem dJ6_bitCount_0f7a4_17 : decode cJ6_bitCount_0f7a4 17 = .ok (.iushr, 1) := by decide +kernel
theorem dJ6_bitCount_0f7a4_18 : decode cJ6_bitCount_0f7a4 18 = .ok (.ldc_w 266, 3) := by decide +kernel
theorem dJ6_bitCount_0f7a4_21 : decode cJ6_bitCount_0f7a4 21 = .ok (.iand, 1) := by decide +kernel
theorem dJ6_bitCount_0f7a4_22 : decode cJ6_bitCount_0f7a4 22 = .ok (.iadd, 1) := by decide +kernel
theorem dJ6_bitCount_0f7a4_23 : decode cJ6_bitCount_0f7a4 23 = .ok (.istore_n 0, 1) := by decide +kernel
theorem dJ6_bitCount_0f7a4_24 : decode cJ6_bitCount_0f7a4 24 = .ok (.iload_n 0, 1) := by decide +kernel
theorem dJ6_bitCount_0f7a4_25 : decode cJ6_bitCount_0f7a4 25 = .ok (.iload_n 0, 1) := by decide +kernel
theorem dJ6_bitCount_0f7a4_26 : decode cJ6_bitCount_0f7a4 26 = .ok (.iconst 4, 1) := by decide +kernel
theorem dJ6_bitCount_0f7a4_27 : decode cJ6_bitCount_0f7a4 27 = .ok (.iushr, 1) := by decide +kernel
theorem dJ6_bitCount_0f7a4_28 : decode cJ6_bitCount_0f7a4 28 = .ok (.iadd, 1) := by decide +kernel
theorem dJ6_bitCount_0f7a4_29 : decode cJ6_bitCount_0f7a4 29 = .ok (.ldc_w 267, 3) := by decide +kernel
theorem dJ6_bitCount_0f7a4_32 : decode cJ6_bitCount_0f7a4 32 = .ok (.iand, 1) := by decide +kernel
theorem dJ6_bitCount_0f7a4_33 : decode cJ6_bitCount_0f7a4 33 = .ok (.istore_n 0, 1) := by decide +kernel
theorem dJ6_bitCount_0f7a4_34 : decode cJ6_bitCount_0f7a4 34 = .ok (.iload_n 0, 1) := by decide +kernel
theorem dJ6_bitCount_0f7a4_35 : decode cJ6_bitCount_0f7a4 35 = .ok (.iload_n 0, 1) := by decide +kernel
theorem dJ6_bitCount_0f7a4_36 : decode cJ6_bitCount_0f7a4 36 = .ok (.bipush 8, 2) := by decide +kernel
theorem dJ6_bitCount_0f7a4_38 : decode cJ6_bitCount_0f7a4 38 = .ok (.iushr, 1) := by decide +kernel
theorem dJ6_bitCount_0f7a4_39 : decode cJ6_bitCount_0f7a4 39 = .ok (.iadd, 1) := by decide +kernel
theorem dJ6_bitCount_0f7a4_40 : decode cJ6_bitCount_0f7a4 40 = .ok (.istore_n 0, 1) := by decide +kernel
theorem dJ6_bitCount_0f7a4_41 : decode cJ6_bitCount_0f7a4 41 = .ok (.iload_n 0, 1) := by decide +kernel
theorem dJ6_bitCount_0f7a4_42 : decode cJ6_bitCount_0f7a4 42 = .ok (.iload_n 0, 1) := by decide +kernel
theorem dJ6_bitCount_0f7a4_43 : decode cJ6_bitCount_0f7a4 43 = .ok (.bipush 16, 2) := by decide +kernel
theorem dJ6_bitCount_0f7a4_45 : decode cJ6_bitCount_0f7a4 45 = .ok (.iushr, 1) := by decide +kernel
theorem dJ6_bitCount_0f7a4_46 : decode cJ6_bitCount_0f7a4 46 = .ok (.iadd, 1) := by decide +kernel
theorem dJ6_bitCount_0f7a4_47 : decode cJ6_bitCount_0f7a4 47 = .ok (.istore_n 0, 1) := by decide +kernel
theorem dJ6_bitCount_0f7a4_48 : decode cJ6_bitCount_0f7a4 48 = .ok (.iload_n 0, 1) := by decide +kernel
theorem dJ6_bitCount_0f7a4_49 : decode cJ6_bitCount_0f7a4 49 = .ok (.bipush 63, 2) := by decide +kernel
theorem dJ6_bitCount_0f7a4_51 : decode cJ6_bitCount_0f7a4 51 = .ok (.iand, 1) := by decide +kernel
theorem dJ6_bitCount_0f7a4_52 : decode cJ6_bitCount_0f7a4 52 = .ok (.ireturn, 1) := by decide +kernel
theorem dJ7_fill_d0a16_0 : decode cJ7_fill_d0a16 0 = .ok (.iconst 0, 1) := by decide +kernel
theorem dJ7_fill_d0a16_1 : decode cJ7_fill_d0a16 1 = .ok (.istore_n 3, 1) := by decide +kernel
theorem dJ7_fill_d0a16_2 : decode cJ7_fill_d0a16 2 = .ok (.aload_n 0, 1) := by decide +kernel
theorem dJ7_fill_d0a16_3 : decode cJ7_fill_d0a16 3 = .ok (.arraylength, 1) := by decide +kernel
theorem dJ7_fill_d0a16_4 : decode cJ7_fill_d0a16 4 = .ok (.istore 4, 2) := by decide +kernel
theorem dJ7_fill_d0a16_6 : decode cJ7_fill_d0a16 6 = .ok (.iload_n 3, 1) := by decide +kernel
theorem dJ7_fill_d0a16_7 : decode cJ7_fill_d0a16 7 = .ok (.iload 4, 2) := by decide +kernel
theorem dJ7_fill_d0a16_9 : decode cJ7_fill_d0a16 9 = .ok (.if_icmp .ge 13, 3) := by decide +kernel
theorem dJ7_fill_d0a16_12 : decode cJ7_fill_d0a16 12 = .ok (.aload_n 0, 1) := by decide +kernel
theorem dJ7_fill_d0a16_13 : decode cJ7_fill_d0a16 13 = .ok (.iload_n 3, 1) := by decide +kernel
theorem dJ7_fill_d0a16_14 : decode cJ7_fill_d0a16 14 = .ok (.lload_n 1, 1) := by decide +kernel
theorem dJ7_fill_d0a16_15 : decode cJ7_fill_d0a16 15 = .ok (.lastore, 1) := by decide +kernel
theorem dJ7_fill_d0a16_16 : decode cJ7_fill_d0a16 16 = .ok (.iinc 3 1, 3) := by decide +kernel
theorem dJ7_fill_d0a16_19 : decode cJ7_fill_d0a16 19 = .ok (.goto (-13), 3) := by decide +kernel
theorem dJ7_fill_d0a16_22 : decode cJ7_fill_d0a16 22 = .ok (.return_, 1) := by decide +kernel
theorem dJ7_fill_53178_0 : decode cJ7_fill_53178 0 = .ok (.iconst 0, 1) := by decide +kernel
theorem dJ7_fill_53178_1 : decode cJ7_fill_53178 1 = .ok (.istore_n 2, 1) := by decide +kernel
theorem dJ7_fill_53178_2 : decode cJ7_fill_53178 2 = .ok (.aload_n 0, 1) := by decide +kernel
theorem dJ7_fill_53178_3 : decode cJ7_fill_53178 3 = .ok (.arraylength, 1) := by decide +kernel
theorem dJ7_fill_53178_4 : decode cJ7_fill_53178 4 = .ok (.istore_n 3, 1) := by decide +kernel
theorem dJ7_fill_53178_5 : decode cJ7_fill_53178 5 = .ok (.iload_n 2, 1) := by decide +kernel
theorem dJ7_fill_53178_6 : decode cJ7_fill_53178 6 = .ok (.iload_n 3, 1) := by decide +kernel
theorem dJ7_fill_53178_7 : decode cJ7_fill_53178 7 = .ok (.if_icmp .ge 13, 3) := by decide +kernel
theorem dJ7_fill_53178_10 : decode cJ7_fill_53178 10 = .ok (.aload_n 0, 1) := by decide +kernel
theorem dJ7_fill_53178_11 : decode cJ7_fill_53178 11 = .ok (.iload_n 2, 1) := by decide +kernel
theorem dJ7_fill_53178_12 : decode cJ7_fill_53178 12 = .ok (.iload_n 1, 1) := by decide +kernel
theorem dJ7_fill_53178_13 : decode cJ7_fill_53178 13 = .ok (.iastore, 1) := by decide +kernel
theorem dJ7_fill_53178_14 : decode cJ7_fill_53178 14 = .ok (.iinc 2 1, 3) := by decide +kernel
theorem dJ7_fill_53178_17 : decode cJ7_fill_53178 17 = .ok (.goto (-12), 3) := by decide +kernel
theorem dJ7_fill_53178_20 : decode cJ7_fill_53178 20 = .ok (.return_, 1) := by decide +kernel
theorem dJ7_copyOf_59c91_0 : decode cJ7_copyOf_59c91 0 = .ok (.iload_n 1, 1) := by decide +kernel
theorem dJ7_copyOf_59c91_1 : decode cJ7_copyOf_59c91 1 = .ok (.aload_n 0, 1) := by decide +kernel
theorem dJ7_copyOf_59c91_2 : decode cJ7_copyOf_59c91 2 = .ok (.arraylength, 1) := by decide +kernel
theorem dJ7_copyOf_59c91_3 : decode cJ7_copyOf_59c91 3 = .ok (.if_icmp .ne 11, 3) := by decide +kernel
theorem dJ7_copyOf_59c91_6 : decode cJ7_copyOf_59c91 6 = .ok (.aload_n 0, 1) := by decide +kernel
theorem dJ7_copyOf_59c91_7 : decode cJ7_copyOf_59c91 7 = .ok (.invokevirtual 316, 3) := by decide +kernel
theorem dJ7_copyOf_59c91_10 : decode cJ7_copyOf_59c91 10 = .ok (.checkcast 317, 3) := by decide +kernel
theorem dJ7_copyOf_59c91_13 : decode cJ7_copyOf_59c91 13 = .ok (.areturn, 1) := by decide +kernel
theorem dJ7_copyOf_59c91_14 : decode cJ7_copyOf_59c91 14 = .ok (.iload_n 1, 1) := by decide +kernel
theorem dJ7_copyOf_59c91_15 : decode cJ7_copyOf_59c91 15 = .ok (.newarray .int, 2) := by decide +kernel
theorem dJ7_copyOf_59c91_17 : decode cJ7_copyOf_59c91 17 = .ok (.astore_n 2, 1) := by decide +kernel
theorem dJ7_copyOf_59c91_18 : decode cJ7_copyOf_59c91 18 = .ok (.aload_n 0, 1) := by decide +kernel
theorem dJ7_copyOf_59c91_19 : decode cJ7_copyOf_59c91 19 = .ok (.iconst 0, 1) := by decide +kernel
theorem dJ7_copyOf_59c91_20 : decode cJ7_copyOf_59c91 20 = .ok (.aload_n 2, 1) := by decide +kernel
theorem dJ7_copyOf_59c91_21 : decode cJ7_copyOf_59c91 21 = .ok (.iconst 0, 1) := by decide +kernel
theorem dJ7_copyOf_59c91_22 : decode cJ7_copyOf_59c91 22 = .ok (.aload_n 0, 1) := by decide +kernel
theorem dJ7_copyOf_59c91_23 : decode cJ7_copyOf_59c91 23 = .ok (.arraylength, 1) := by decide +kernel
theorem dJ7_copyOf_59c91_24 : decode cJ7_copyOf_59c91 24 = .ok (.iload_n 1, 1) := by decide +kernel
theorem dJ7_copyOf_59c91_25 : decode cJ7_copyOf_59c91 25 = .ok (.invokestatic 304, 3) := by decide +kernel
theorem dJ7_copyOf_59c91_28 : decode cJ7_copyOf_59c91 28 = .ok (.invokestatic 150, 3) := by decide +kernel
theorem dJ7_copyOf_59c91_31 : decode cJ7_copyOf_59c91 31 = .ok (.aload_n 2, 1) := by decide +kernel
theorem dJ7_copyOf_59c91_32 : decode cJ7_copyOf_59c91 32 = .ok (.areturn, 1) := by decide +kernel
theorem dJ9_max_7cf53_0 : decode cJ9_max_7cf53 0 = .ok (.iload_n 0, 1) := by decide +kernel
theorem dJ9_max_7cf53_1 : decode cJ9_max_7cf53 1 = .ok (.iload_n 1, 1) := by decide +kernel
theorem dJ9_max_7cf53_2 : decode cJ9_max_7cf53 2 = .ok (.if_icmp .lt 7, 3) := by decide +kernel
theorem dJ9_max_7cf53_5 : decode cJ9_max_7cf53 5 = .ok (.iload_n 0, 1) := by decide +kernel
theorem dJ9_max_7cf53_6 : decode cJ9_max_7cf53 6 = .ok (.goto 4, 3) := by decide +kernel
theorem dJ9_max_7cf53_9 : decode cJ9_max_7cf53 9 = .ok (.iload_n 1, 1) := by decide +kernel
theorem dJ9_max_7cf53_10 : decode cJ9_max_7cf53 10 = .ok (.ireturn, 1) := by decide +kernel
theorem dJ9_max_f86c9_0 : decode cJ9_max_f86c9 0 = .ok (.lload_n 0, 1) := by decide +kernel
theorem dJ9_max_f86c9_1 : decode cJ9_max_f86c9 1 = .ok (.lload_n 2, 1) := by decide +kernel
theorem dJ9_max_f86c9_2 : decode cJ9_max_f86c9 2 = .ok (.lcmp, 1) := by decide +kernel
theorem dJ9_max_f86c9_3 : decode cJ9_max_f86c9 3 = .ok (.ifCond .lt 7, 3) := by decide +kernel
theorem dJ9_max_f86c9_6 : decode cJ9_max_f86c9 6 = .ok (.lload_n 0, 1) := by decide +kernel
theorem dJ9_max_f86c9_7 : decode cJ9_max_f86c9 7 = .ok (.goto 4, 3) := by decide +kernel
theorem dJ9_max_f86c9_10 : decode cJ9_max_f86c9 10 = .ok (.lload_n 2, 1) := by decide +kernel
theorem dJ9_max_f86c9_11 : decode cJ9_max_f86c9 11 = .ok (.lreturn, 1) := by decide +kernel
theorem dJ9_min_7cf53_0 : decode cJ9_min_7cf53 0 = .ok (.iload_n 0, 1) := by decide +kernel
theorem dJ9_min_7cf53_1 : decode cJ9_min_7cf53 1 = .ok (.iload_n 1, 1) := by decide +kernel
theorem dJ9_min_7cf53_2 : decode cJ9_min_7cf53 2 = .ok (.if_icmp .gt 7, 3) := by decide +kernel
theorem dJ9_min_7cf53_5 : decode cJ9_min_7cf53 5 = .ok (.iload_n 0, 1) := by decide +kernel
theorem dJ9_min_7cf53_6 : decode cJ9_min_7cf53 6 = .ok (.goto 4, 3) := by decide +kernel
theorem dJ9_min_7cf53_9 : decode cJ9_min_7cf53 9 = .ok (.iload_n 1, 1) := by decide +kernel
theorem dJ9_min_7cf53_10 : decode cJ9_min_7cf53 10 = .ok (.ireturn, 1) := by decide +kernel
theorem dJ9_min_f86c9_0 : decode cJ9_min_f86c9 0 = .ok (.lload_n 0, 1) := by decide +kernel
theorem dJ9_min_f86c9_1 : decode cJ9_min_f86c9 1 = .ok (.lload_n 2, 1) := by decide +kernel
theorem dJ9_min_f86c9_2 : decode cJ9_min_f86c9 2 = .ok (.lcmp, 1) := by decide +kernel
theorem dJ9_min_f86c9_3 : decode cJ9_min_f86c9 3 = .ok (.ifCond .gt 7, 3) := by decide +kernel
theorem dJ9_min_f86c9_6 : decode cJ9_min_f86c9 6 = .ok (.lload_n 0, 1) := by decide +kernel
theorem dJ9_min_f86c9_7 : decode cJ9_min_f86c9 7 = .ok (.goto 4, 3) := by decide +kernel
theorem dJ9_min_f86c9_10 : decode cJ9_min_f86c9 10 = .ok (.lload_n 2, 1) := by decide +kernel
theorem dJ9_min_f86c9_11 : decode cJ9_min_f86c9 11 = .ok (.lreturn, 1) := by decide +kernel
theorem dJ11_isValidCodePoint_9a6ad_0 : decode cJ11_isValidCodePoint_9a6ad 0 = .ok (.iload_n 0, 1) := by decide +kernel
theorem dJ11_isValidCodePoint_9a6ad_1 : decode cJ11_isValidCodePoint_9a6ad 1 = .ok (.bipush 16, 2) := by decide +kernel
theorem dJ11_isValidCodePoint_9a6ad_3 : decode cJ11_isValidCodePoint_9a6ad 3 = .ok (.iushr, 1) := by decide +kernel
theorem dJ11_isValidCodePoint_9a6ad_4 : decode cJ11_isValidCodePoint_9a6ad 4 = .ok (.istore_n 1, 1) := by decide +kernel
theorem dJ11_isValidCodePoint_9a6ad_5 : decode cJ11_isValidCodePoint_9a6ad 5 = .ok (.iload_n 1, 1) := by decide +kernel
theorem dJ11_isValidCodePoint_9a6ad_6 : decode cJ11_isValidCodePoint_9a6ad 6 = .ok (.bipush 17, 2) := by decide +kernel
theorem dJ11_isValidCodePoint_9a6ad_8 : decode cJ11_isValidCodePoint_9a6ad 8 = .ok (.if_icmp .ge 7, 3) := by decide +kernel
theorem dJ11_isValidCodePoint_9a6ad_11 : decode cJ11_isValidCodePoint_9a6ad 11 = .ok (.iconst 1, 1) := by decide +kernel
theorem dJ11_isValidCodePoint_9a6ad_12 : decode cJ11_isValidCodePoint_9a6ad 12 = .ok (.goto 4, 3) := by decide +kernel
theorem dJ11_isValidCodePoint_9a6ad_15 : decode cJ11_isValidCodePoint_9a6ad 15 = .ok (.iconst 0, 1) := by decide +kernel
theorem dJ11_isValidCodePoint_9a6ad_16 : decode cJ11_isValidCodePoint_9a6ad 16 = .ok (.ireturn, 1) := by decide +kernel
theorem dJ11_highSurrogate_5068e_0 : decode cJ11_highSurrogate_5068e 0 = .ok (.iload_n 0, 1) := by decide +kernel
theorem dJ11_highSurrogate_5068e_1 : decode cJ11_highSurrogate_5068e 1 = .ok (.bipush 10, 2) := by decide +kernel
theorem dJ11_highSurrogate_5068e_3 : decode cJ11_highSurrogate_5068e 3 = .ok (.iushr, 1) := by decide +kernel
theorem dJ11_highSurrogate_5068e_4 : decode cJ11_highSurrogate_5068e 4 = .ok (.ldc 110, 2) := by decide +kernel
theorem dJ11_highSurrogate_5068e_6 : decode cJ11_highSurrogate_5068e 6 = .ok (.iadd, 1) := by decide +kernel
theorem dJ11_highSurrogate_5068e_7 : decode cJ11_highSurrogate_5068e 7 = .ok (.i2c, 1) := by decide +kernel
theorem dJ11_highSurrogate_5068e_8 : decode cJ11_highSurrogate_5068e 8 = .ok (.ireturn, 1) := by decide +kernel
theorem dJ11_lowSurrogate_5068e_0 : decode cJ11_lowSurrogate_5068e 0 = .ok (.iload_n 0, 1) := by decide +kernel
theorem dJ11_lowSurrogate_5068e_1 : decode cJ11_lowSurrogate_5068e 1 = .ok (.sipush 1023, 3) := by decide +kernel
theorem dJ11_lowSurrogate_5068e_4 : decode cJ11_lowSurrogate_5068e 4 = .ok (.iand, 1) := by decide +kernel
theorem dJ11_lowSurrogate_5068e_5 : decode cJ11_lowSurrogate_5068e 5 = .ok (.ldc 76, 2) := by decide +kernel
theorem dJ11_lowSurrogate_5068e_7 : decode cJ11_lowSurrogate_5068e 7 = .ok (.iadd, 1) := by decide +kernel
theorem dJ11_lowSurrogate_5068e_8 : decode cJ11_lowSurrogate_5068e 8 = .ok (.i2c, 1) := by decide +kernel
theorem dJ11_lowSurrogate_5068e_9 : decode cJ11_lowSurrogate_5068e 9 = .ok (.ireturn, 1) := by decide +kernel
