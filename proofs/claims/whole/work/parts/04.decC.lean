theorem dX12_init_0 : decode cX12_init 0 = .ok (.aload_n 0, 1) := by decide +kernel
theorem dX12_init_1 : decode cX12_init 1 = .ok (.invokespecial 1, 3) := by decide +kernel
theorem dX12_init_4 : decode cX12_init 4 = .ok (.aload_n 0, 1) := by decide +kernel
theorem dX12_init_5 : decode cX12_init 5 = .ok (.sipush 3240, 3) := by decide +kernel
theorem dX12_init_8 : decode cX12_init 8 = .ok (.newarray .int, 2) := by decide +kernel
theorem dX12_init_10 : decode cX12_init 10 = .ok (.putfield 9, 3) := by decide +kernel
theorem dX12_init_13 : decode cX12_init 13 = .ok (.aload_n 0, 1) := by decide +kernel
theorem dX12_init_14 : decode cX12_init 14 = .ok (.sipush 3240, 3) := by decide +kernel
theorem dX12_init_17 : decode cX12_init 17 = .ok (.newarray .int, 2) := by decide +kernel
theorem dX12_init_19 : decode cX12_init 19 = .ok (.putfield 13, 3) := by decide +kernel
theorem dX12_init_22 : decode cX12_init 22 = .ok (.aload_n 0, 1) := by decide +kernel
theorem dX12_init_23 : decode cX12_init 23 = .ok (.sipush 9720, 3) := by decide +kernel
theorem dX12_init_26 : decode cX12_init 26 = .ok (.newarray .int, 2) := by decide +kernel
theorem dX12_init_28 : decode cX12_init 28 = .ok (.putfield 16, 3) := by decide +kernel
theorem dX12_init_31 : decode cX12_init 31 = .ok (.aload_n 0, 1) := by decide +kernel
theorem dX12_init_32 : decode cX12_init 32 = .ok (.iconst 3, 1) := by decide +kernel
theorem dX12_init_33 : decode cX12_init 33 = .ok (.newarray .boolean, 2) := by decide +kernel
theorem dX12_init_35 : decode cX12_init 35 = .ok (.putfield 19, 3) := by decide +kernel
theorem dX12_init_38 : decode cX12_init 38 = .ok (.aload_n 0, 1) := by decide +kernel
theorem dX12_init_39 : decode cX12_init 39 = .ok (.sipush 900, 3) := by decide +kernel
theorem dX12_init_42 : decode cX12_init 42 = .ok (.newarray .int, 2) := by decide +kernel
theorem dX12_init_44 : decode cX12_init 44 = .ok (.putfield 23, 3) := by decide +kernel
theorem dX12_init_47 : decode cX12_init 47 = .ok (.aload_n 0, 1) := by decide +kernel
theorem dX12_init_48 : decode cX12_init 48 = .ok (.iconst (-1), 1) := by decide +kernel
theorem dX12_init_49 : decode cX12_init 49 = .ok (.putfield 26, 3) := by decide +kernel
theorem dX12_init_52 : decode cX12_init 52 = .ok (.aload_n 0, 1) := by decide +kernel
theorem dX12_init_53 : decode cX12_init 53 = .ok (.bipush 64, 2) := by decide +kernel
theorem dX12_init_55 : decode cX12_init 55 = .ok (.newarray .int, 2) := by decide +kernel
theorem dX12_init_57 : decode cX12_init 57 = .ok (.putfield 30, 3) := by decide +kernel
theorem dX12_init_60 : decode cX12_init 60 = .ok (.aload_n 0, 1) := by decide +kernel
theorem dX12_init_61 : decode cX12_init 61 = .ok (.bipush 6, 2) := by decide +kernel
theorem dX12_init_63 : decode cX12_init 63 = .ok (.newarray .int, 2) := by decide +kernel
theorem dX12_init_65 : decode cX12_init 65 = .ok (.putfield 33, 3) := by decide +kernel
theorem dX12_init_68 : decode cX12_init 68 = .ok (.aload_n 0, 1) := by decide +kernel
theorem dX12_init_69 : decode cX12_init 69 = .ok (.bipush 7, 2) := by decide +kernel
theorem dX12_init_71 : decode cX12_init 71 = .ok (.newarray .int, 2) := by decide +kernel
theorem dX12_init_73 : decode cX12_init 73 = .ok (.putfield 36, 3) := by decide +kernel
theorem dX12_init_76 : decode cX12_init 76 = .ok (.aload_n 0, 1) := by decide +kernel
theorem dX12_init_77 : decode cX12_init 77 = .ok (.bipush 7, 2) := by decide +kernel
theorem dX12_init_79 : decode cX12_init 79 = .ok (.newarray .int, 2) := by decide +kernel
theorem dX12_init_81 : decode cX12_init 81 = .ok (.putfield 39, 3) := by decide +kernel
theorem dX12_init_84 : decode cX12_init 84 = .ok (.aload_n 0, 1) := by decide +kernel
theorem dX12_init_85 : decode cX12_init 85 = .ok (.bipush 44, 2) := by decide +kernel
theorem dX12_init_87 : decode cX12_init 87 = .ok (.newarray .int, 2) := by decide +kernel
theorem dX12_init_89 : decode cX12_init 89 = .ok (.putfield 42, 3) := by decide +kernel
theorem dX12_init_92 : decode cX12_init 92 = .ok (.aload_n 0, 1) := by decide +kernel
theorem dX12_init_93 : decode cX12_init 93 = .ok (.bipush 7, 2) := by decide +kernel
theorem dX12_init_95 : decode cX12_init 95 = .ok (.newarray .int, 2) := by decide +kernel
theorem dX12_init_97 : decode cX12_init 97 = .ok (.putfield 45, 3) := by decide +kernel
theorem dX12_init_100 : decode cX12_init 100 = .ok (.aload_n 0, 1) := by decide +kernel
theorem dX12_init_101 : decode cX12_init 101 = .ok (.bipush 7, 2) := by decide +kernel
theorem dX12_init_103 : decode cX12_init 103 = .ok (.newarray .int, 2) := by decide +kernel
theorem dX12_init_105 : decode cX12_init 105 = .ok (.putfield 48, 3) := by decide +kernel
theorem dX12_init_108 : decode cX12_init 108 = .ok (.aload_n 0, 1) := by decide +kernel
theorem dX12_init_109 : decode cX12_init 109 = .ok (.sipush 693, 3) := by decide +kernel
theorem dX12_init_112 : decode cX12_init 112 = .ok (.newarray .int, 2) := by decide +kernel
theorem dX12_init_114 : decode cX12_init 114 = .ok (.putfield 51, 3) := by decide +kernel
theorem dX12_init_117 : decode cX12_init 117 = .ok (.aload_n 0, 1) := by decide +kernel
theorem dX12_init_118 : decode cX12_init 118 = .ok (.sipush 4851, 3) := by decide +kernel
theorem dX12_init_121 : decode cX12_init 121 = .ok (.newarray .int, 2) := by decide +kernel
theorem dX12_init_123 : decode cX12_init 123 = .ok (.putfield 54, 3) := by decide +kernel
theorem dX12_init_126 : decode cX12_init 126 = .ok (.aload_n 0, 1) := by decide +kernel
theorem dX12_init_127 : decode cX12_init 127 = .ok (.iconst 4, 1) := by decide +kernel
theorem dX12_init_128 : decode cX12_init 128 = .ok (.newarray .int, 2) := by decide +kernel
theorem dX12_init_130 : decode cX12_init 130 = .ok (.dup, 1) := by decide +kernel
theorem dX12_init_131 : decode cX12_init 131 = .ok (.iconst 0, 1) := by decide +kernel
theorem dX12_init_132 : decode cX12_init 132 = .ok (.iconst (-1), 1) := by decide +kernel
theorem dX12_init_133 : decode cX12_init 133 = .ok (.iastore, 1) := by decide +kernel
theorem dX12_init_134 : decode cX12_init 134 = .ok (.dup, 1) := by decide +kernel
theorem dX12_init_135 : decode cX12_init 135 = .ok (.iconst 1, 1) := by decide +kernel
theorem dX12_init_136 : decode cX12_init 136 = .ok (.iconst (-1), 1) := by decide +kernel
theorem dX12_init_137 : decode cX12_init 137 = .ok (.iastore, 1) := by decide +kernel
theorem dX12_init_138 : decode cX12_init 138 = .ok (.dup, 1) := by decide +kernel
theorem dX12_init_139 : decode cX12_init 139 = .ok (.iconst 2, 1) := by decide +kernel
theorem dX12_init_140 : decode cX12_init 140 = .ok (.iconst (-1), 1) := by decide +kernel
theorem dX12_init_141 : decode cX12_init 141 = .ok (.iastore, 1) := by decide +kernel
theorem dX12_init_142 : decode cX12_init 142 = .ok (.dup, 1) := by decide +kernel
theorem dX12_init_143 : decode cX12_init 143 = .ok (.iconst 3, 1) := by decide +kernel
theorem dX12_init_144 : decode cX12_init 144 = .ok (.iconst (-1), 1) := by decide +kernel
theorem dX12_init_145 : decode cX12_init 145 = .ok (.iastore, 1) := by decide +kernel
theorem dX12_init_146 : decode cX12_init 146 = .ok (.putfield 57, 3) := by decide +kernel
theorem dX12_init_149 : decode cX12_init 149 = .ok (.aload_n 0, 1) := by decide +kernel
theorem dX12_init_150 : decode cX12_init 150 = .ok (.iconst 4, 1) := by decide +kernel
theorem dX12_init_151 : decode cX12_init 151 = .ok (.newarray .int, 2) := by decide +kernel
theorem dX12_init_153 : decode cX12_init 153 = .ok (.putfield 60, 3) := by decide +kernel
theorem dX12_init_156 : decode cX12_init 156 = .ok (.aload_n 0, 1) := by decide +kernel
theorem dX12_init_157 : decode cX12_init 157 = .ok (.bipush 120, 2) := by decide +kernel
theorem dX12_init_159 : decode cX12_init 159 = .ok (.newarray .long, 2) := by decide +kernel
theorem dX12_init_161 : decode cX12_init 161 = .ok (.putfield 63, 3) := by decide +kernel
theorem dX12_init_164 : decode cX12_init 164 = .ok (.aload_n 0, 1) := by decide +kernel
theorem dX12_init_165 : decode cX12_init 165 = .ok (.getfield 9, 3) := by decide +kernel
theorem dX12_init_168 : decode cX12_init 168 = .ok (.iconst 3, 1) := by decide +kernel
theorem dX12_init_169 : decode cX12_init 169 = .ok (.bipush 100, 2) := by decide +kernel
theorem dX12_init_171 : decode cX12_init 171 = .ok (.iastore, 1) := by decide +kernel
theorem dX12_init_172 : decode cX12_init 172 = .ok (.return_, 1) := by decide +kernel
theorem dX12_thrown_0 : decode cX12_thrown 0 = .ok (.aload_n 0, 1) := by decide +kernel
theorem dX12_thrown_1 : decode cX12_thrown 1 = .ok (.getfield 67, 3) := by decide +kernel
theorem dX12_thrown_4 : decode cX12_thrown 4 = .ok (.ireturn, 1) := by decide +kernel
theorem dX12_fails_0 : decode cX12_fails 0 = .ok (.aload_n 0, 1) := by decide +kernel
theorem dX12_fails_1 : decode cX12_fails 1 = .ok (.iload_n 1, 1) := by decide +kernel
theorem dX12_fails_2 : decode cX12_fails 2 = .ok (.putfield 67, 3) := by decide +kernel
theorem dX12_fails_5 : decode cX12_fails 5 = .ok (.iconst 0, 1) := by decide +kernel
theorem dX12_fails_6 : decode cX12_fails 6 = .ok (.ireturn, 1) := by decide +kernel
theorem dX12_within_0 : decode cX12_within 0 = .ok (.lload_n 0, 1) := by decide +kernel
theorem dX12_within_1 : decode cX12_within 1 = .ok (.lload_n 2, 1) := by decide +kernel
theorem dX12_within_2 : decode cX12_within 2 = .ok (.lcmp, 1) := by decide +kernel
theorem dX12_within_3 : decode cX12_within 3 = .ok (.ifCond .lt 14, 3) := by decide +kernel
theorem dX12_within_6 : decode cX12_within 6 = .ok (.lload_n 0, 1) := by decide +kernel
theorem dX12_within_7 : decode cX12_within 7 = .ok (.lload 4, 2) := by decide +kernel
theorem dX12_within_9 : decode cX12_within 9 = .ok (.lcmp, 1) := by decide +kernel
theorem dX12_within_10 : decode cX12_within 10 = .ok (.ifCond .gt 7, 3) := by decide +kernel
theorem dX12_within_13 : decode cX12_within 13 = .ok (.iconst 1, 1) := by decide +kernel
theorem dX12_within_14 : decode cX12_within 14 = .ok (.goto 4, 3) := by decide +kernel
theorem dX12_within_17 : decode cX12_within 17 = .ok (.iconst 0, 1) := by decide +kernel
theorem dX12_within_18 : decode cX12_within 18 = .ok (.ireturn, 1) := by decide +kernel
theorem dX12_has_0 : decode cX12_has 0 = .ok (.iload_n 0, 1) := by decide +kernel
theorem dX12_has_1 : decode cX12_has 1 = .ok (.iload_n 1, 1) := by decide +kernel
theorem dX12_has_2 : decode cX12_has 2 = .ok (.ishr, 1) := by decide +kernel
theorem dX12_has_3 : decode cX12_has 3 = .ok (.iconst 1, 1) := by decide +kernel
theorem dX12_has_4 : decode cX12_has 4 = .ok (.iand, 1) := by decide +kernel
theorem dX12_has_5 : decode cX12_has 5 = .ok (.iconst 1, 1) := by decide +kernel
theorem dX12_has_6 : decode cX12_has 6 = .ok (.if_icmp .ne 7, 3) := by decide +kernel
theorem dX12_has_9 : decode cX12_has 9 = .ok (.iconst 1, 1) := by decide +kernel
theorem dX12_has_10 : decode cX12_has 10 = .ok (.goto 4, 3) := by decide +kernel
theorem dX12_has_13 : decode cX12_has 13 = .ok (.iconst 0, 1) := by decide +kernel
theorem dX12_has_14 : decode cX12_has 14 = .ok (.ireturn, 1) := by decide +kernel
theorem dX12_size_0 : decode cX12_size 0 = .ok (.iconst 0, 1) := by decide +kernel
theorem dX12_size_1 : decode cX12_size 1 = .ok (.istore_n 1, 1) := by decide +kernel
theorem dX12_size_2 : decode cX12_size 2 = .ok (.iload_n 0, 1) := by decide +kernel
theorem dX12_size_3 : decode cX12_size 3 = .ok (.istore_n 2, 1) := by decide +kernel
theorem dX12_size_4 : decode cX12_size 4 = .ok (.iload_n 2, 1) := by decide +kernel
theorem dX12_size_5 : decode cX12_size 5 = .ok (.ifCond .eq 15, 3) := by decide +kernel
theorem dX12_size_8 : decode cX12_size 8 = .ok (.iinc 1 1, 3) := by decide +kernel
theorem dX12_size_11 : decode cX12_size 11 = .ok (.iload_n 2, 1) := by decide +kernel
theorem dX12_size_12 : decode cX12_size 12 = .ok (.iload_n 2, 1) := by decide +kernel
theorem dX12_size_13 : decode cX12_size 13 = .ok (.iconst 1, 1) := by decide +kernel
theorem dX12_size_14 : decode cX12_size 14 = .ok (.isub, 1) := by decide +kernel
theorem dX12_size_15 : decode cX12_size 15 = .ok (.iand, 1) := by decide +kernel
theorem dX12_size_16 : decode cX12_size 16 = .ok (.istore_n 2, 1) := by decide +kernel
theorem dX12_size_17 : decode cX12_size 17 = .ok (.goto (-13), 3) := by decide +kernel
theorem dX12_size_20 : decode cX12_size 20 = .ok (.iload_n 1, 1) := by decide +kernel
theorem dX12_size_21 : decode cX12_size 21 = .ok (.ireturn, 1) := by decide +kernel
theorem dX12_feed_0 : decode cX12_feed 0 = .ok (.aload_n 0, 1) := by decide +kernel
theorem dX12_feed_1 : decode cX12_feed 1 = .ok (.iconst 0, 1) := by decide +kernel
theorem dX12_feed_2 : decode cX12_feed 2 = .ok (.putfield 67, 3) := by decide +kernel
theorem dX12_feed_5 : decode cX12_feed 5 = .ok (.aload_n 0, 1) := by decide +kernel
theorem dX12_feed_6 : decode cX12_feed 6 = .ok (.getfield 70, 3) := by decide +kernel
theorem dX12_feed_9 : decode cX12_feed 9 = .ok (.bipush 20, 2) := by decide +kernel
theorem dX12_feed_11 : decode cX12_feed 11 = .ok (.iadd, 1) := by decide +kernel
theorem dX12_feed_12 : decode cX12_feed 12 = .ok (.sipush 900, 3) := by decide +kernel
theorem dX12_feed_15 : decode cX12_feed 15 = .ok (.if_icmp .le 5, 3) := by decide +kernel
theorem dX12_feed_18 : decode cX12_feed 18 = .ok (.iconst (-1), 1) := by decide +kernel
theorem dX12_feed_19 : decode cX12_feed 19 = .ok (.ireturn, 1) := by decide +kernel
theorem dX12_feed_20 : decode cX12_feed 20 = .ok (.iconst 0, 1) := by decide +kernel
theorem dX12_feed_21 : decode cX12_feed 21 = .ok (.istore 6, 2) := by decide +kernel
theorem dX12_feed_23 : decode cX12_feed 23 = .ok (.iload 6, 2) := by decide +kernel
theorem dX12_feed_25 : decode cX12_feed 25 = .ok (.bipush 20, 2) := by decide +kernel
theorem dX12_feed_27 : decode cX12_feed 27 = .ok (.if_icmp .ge 93, 3) := by decide +kernel
theorem dX12_feed_30 : decode cX12_feed 30 = .ok (.iload 6, 2) := by decide +kernel
theorem dX12_feed_32 : decode cX12_feed 32 = .ok (.iconst 4, 1) := by decide +kernel
theorem dX12_feed_33 : decode cX12_feed 33 = .ok (.if_icmp .ge 7, 3) := by decide +kernel
theorem dX12_feed_36 : decode cX12_feed 36 = .ok (.iload_n 1, 1) := by decide +kernel
theorem dX12_feed_37 : decode cX12_feed 37 = .ok (.goto 39, 3) := by decide +kernel
theorem dX12_feed_40 : decode cX12_feed 40 = .ok (.iload 6, 2) := by decide +kernel
theorem dX12_feed_42 : decode cX12_feed 42 = .ok (.bipush 8, 2) := by decide +kernel
theorem dX12_feed_44 : decode cX12_feed 44 = .ok (.if_icmp .ge 7, 3) := by decide +kernel
theorem dX12_feed_47 : decode cX12_feed 47 = .ok (.iload_n 2, 1) := by decide +kernel
theorem dX12_feed_48 : decode cX12_feed 48 = .ok (.goto 28, 3) := by decide +kernel
theorem dX12_feed_51 : decode cX12_feed 51 = .ok (.iload 6, 2) := by decide +kernel
theorem dX12_feed_53 : decode cX12_feed 53 = .ok (.bipush 12, 2) := by decide +kernel
theorem dX12_feed_55 : decode cX12_feed 55 = .ok (.if_icmp .ge 7, 3) := by decide +kernel
theorem dX12_feed_58 : decode cX12_feed 58 = .ok (.iload_n 3, 1) := by decide +kernel
theorem dX12_feed_59 : decode cX12_feed 59 = .ok (.goto 17, 3) := by decide +kernel
theorem dX12_feed_62 : decode cX12_feed 62 = .ok (.iload 6, 2) := by decide +kernel
theorem dX12_feed_64 : decode cX12_feed 64 = .ok (.bipush 16, 2) := by decide +kernel
theorem dX12_feed_66 : decode cX12_feed 66 = .ok (.if_icmp .ge 8, 3) := by decide +kernel
theorem dX12_feed_69 : decode cX12_feed 69 = .ok (.iload 4, 2) := by decide +kernel
theorem dX12_feed_71 : decode cX12_feed 71 = .ok (.goto 5, 3) := by decide +kernel
theorem dX12_feed_74 : decode cX12_feed 74 = .ok (.iload 5, 2) := by decide +kernel
theorem dX12_feed_76 : decode cX12_feed 76 = .ok (.istore 7, 2) := by decide +kernel
theorem dX12_feed_78 : decode cX12_feed 78 = .ok (.aload_n 0, 1) := by decide +kernel
theorem dX12_feed_79 : decode cX12_feed 79 = .ok (.getfield 23, 3) := by decide +kernel
theorem dX12_feed_82 : decode cX12_feed 82 = .ok (.aload_n 0, 1) := by decide +kernel
theorem dX12_feed_83 : decode cX12_feed 83 = .ok (.getfield 70, 3) := by decide +kernel
theorem dX12_feed_86 : decode cX12_feed 86 = .ok (.iload 7, 2) := by decide +kernel
theorem dX12_feed_88 : decode cX12_feed 88 = .ok (.bipush 24, 2) := by decide +kernel
theorem dX12_feed_90 : decode cX12_feed 90 = .ok (.bipush 8, 2) := by decide +kernel
theorem dX12_feed_92 : decode cX12_feed 92 = .ok (.iload 6, 2) := by decide +kernel
theorem dX12_feed_94 : decode cX12_feed 94 = .ok (.iconst 3, 1) := by decide +kernel
theorem dX12_feed_95 : decode cX12_feed 95 = .ok (.iand, 1) := by decide +kernel
theorem dX12_feed_96 : decode cX12_feed 96 = .ok (.imul, 1) := by decide +kernel
theorem dX12_feed_97 : decode cX12_feed 97 = .ok (.isub, 1) := by decide +kernel
theorem dX12_feed_98 : decode cX12_feed 98 = .ok (.iushr, 1) := by decide +kernel
theorem dX12_feed_99 : decode cX12_feed 99 = .ok (.sipush 255, 3) := by decide +kernel
theorem dX12_feed_102 : decode cX12_feed 102 = .ok (.iand, 1) := by decide +kernel
theorem dX12_feed_103 : decode cX12_feed 103 = .ok (.iastore, 1) := by decide +kernel
theorem dX12_feed_104 : decode cX12_feed 104 = .ok (.aload_n 0, 1) := by decide +kernel
theorem dX12_feed_105 : decode cX12_feed 105 = .ok (.dup, 1) := by decide +kernel
theorem dX12_feed_106 : decode cX12_feed 106 = .ok (.getfield 70, 3) := by decide +kernel
theorem dX12_feed_109 : decode cX12_feed 109 = .ok (.iconst 1, 1) := by decide +kernel
theorem dX12_feed_110 : decode cX12_feed 110 = .ok (.iadd, 1) := by decide +kernel
theorem dX12_feed_111 : decode cX12_feed 111 = .ok (.putfield 70, 3) := by decide +kernel
theorem dX12_feed_114 : decode cX12_feed 114 = .ok (.iinc 6 1, 3) := by decide +kernel
theorem dX12_feed_117 : decode cX12_feed 117 = .ok (.goto (-94), 3) := by decide +kernel
theorem dX12_feed_120 : decode cX12_feed 120 = .ok (.aload_n 0, 1) := by decide +kernel
theorem dX12_feed_121 : decode cX12_feed 121 = .ok (.getfield 70, 3) := by decide +kernel
theorem dX12_feed_124 : decode cX12_feed 124 = .ok (.ireturn, 1) := by decide +kernel
theorem dX12_see_0 : decode cX12_see 0 = .ok (.iload_n 1, 1) := by decide +kernel
theorem dX12_see_1 : decode cX12_see 1 = .ok (.aload_n 0, 1) := by decide +kernel
theorem dX12_see_2 : decode cX12_see 2 = .ok (.getfield 73, 3) := by decide +kernel
theorem dX12_see_5 : decode cX12_see 5 = .ok (.if_icmp .ge 12, 3) := by decide +kernel
theorem dX12_see_8 : decode cX12_see 8 = .ok (.aload_n 0, 1) := by decide +kernel
theorem dX12_see_9 : decode cX12_see 9 = .ok (.getfield 23, 3) := by decide +kernel
theorem dX12_see_12 : decode cX12_see 12 = .ok (.iload_n 1, 1) := by decide +kernel
theorem dX12_see_13 : decode cX12_see 13 = .ok (.iaload, 1) := by decide +kernel
theorem dX12_see_14 : decode cX12_see 14 = .ok (.goto 4, 3) := by decide +kernel
theorem dX12_see_17 : decode cX12_see 17 = .ok (.iconst 0, 1) := by decide +kernel
theorem dX12_see_18 : decode cX12_see 18 = .ok (.ireturn, 1) := by decide +kernel
theorem dX12_isLetter_0 : decode cX12_isLetter 0 = .ok (.iload_n 0, 1) := by decide +kernel
theorem dX12_isLetter_1 : decode cX12_isLetter 1 = .ok (.bipush 97, 2) := by decide +kernel
theorem dX12_isLetter_3 : decode cX12_isLetter 3 = .ok (.if_icmp .lt 13, 3) := by decide +kernel
theorem dX12_isLetter_6 : decode cX12_isLetter 6 = .ok (.iload_n 0, 1) := by decide +kernel
theorem dX12_isLetter_7 : decode cX12_isLetter 7 = .ok (.bipush 122, 2) := by decide +kernel
theorem dX12_isLetter_9 : decode cX12_isLetter 9 = .ok (.if_icmp .gt 7, 3) := by decide +kernel
theorem dX12_isLetter_12 : decode cX12_isLetter 12 = .ok (.iconst 1, 1) := by decide +kernel
theorem dX12_isLetter_13 : decode cX12_isLetter 13 = .ok (.goto 4, 3) := by decide +kernel
theorem dX12_isLetter_16 : decode cX12_isLetter 16 = .ok (.iconst 0, 1) := by decide +kernel
theorem dX12_isLetter_17 : decode cX12_isLetter 17 = .ok (.ireturn, 1) := by decide +kernel
theorem dX12_isDigit_0 : decode cX12_isDigit 0 = .ok (.iload_n 0, 1) := by decide +kernel
theorem dX12_isDigit_1 : decode cX12_isDigit 1 = .ok (.bipush 48, 2) := by decide +kernel
theorem dX12_isDigit_3 : decode cX12_isDigit 3 = .ok (.if_icmp .lt 13, 3) := by decide +kernel
theorem dX12_isDigit_6 : decode cX12_isDigit 6 = .ok (.iload_n 0, 1) := by decide +kernel
theorem dX12_isDigit_7 : decode cX12_isDigit 7 = .ok (.bipush 57, 2) := by decide +kernel
theorem dX12_isDigit_9 : decode cX12_isDigit 9 = .ok (.if_icmp .gt 7, 3) := by decide +kernel
theorem dX12_isDigit_12 : decode cX12_isDigit 12 = .ok (.iconst 1, 1) := by decide +kernel
theorem dX12_isDigit_13 : decode cX12_isDigit 13 = .ok (.goto 4, 3) := by decide +kernel
theorem dX12_isDigit_16 : decode cX12_isDigit 16 = .ok (.iconst 0, 1) := by decide +kernel
theorem dX12_isDigit_17 : decode cX12_isDigit 17 = .ok (.ireturn, 1) := by decide +kernel
theorem dX12_isSignByte_0 : decode cX12_isSignByte 0 = .ok (.iload_n 0, 1) := by decide +kernel
theorem dX12_isSignByte_1 : decode cX12_isSignByte 1 = .ok (.bipush 91, 2) := by decide +kernel
theorem dX12_isSignByte_3 : decode cX12_isSignByte 3 = .ok (.if_icmp .eq 33, 3) := by decide +kernel
theorem dX12_isSignByte_6 : decode cX12_isSignByte 6 = .ok (.iload_n 0, 1) := by decide +kernel
theorem dX12_isSignByte_7 : decode cX12_isSignByte 7 = .ok (.bipush 93, 2) := by decide +kernel
theorem dX12_isSignByte_9 : decode cX12_isSignByte 9 = .ok (.if_icmp .eq 27, 3) := by decide +kernel
theorem dX12_isSignByte_12 : decode cX12_isSignByte 12 = .ok (.iload_n 0, 1) := by decide +kernel
theorem dX12_isSignByte_13 : decode cX12_isSignByte 13 = .ok (.bipush 61, 2) := by decide +kernel
theorem dX12_isSignByte_15 : decode cX12_isSignByte 15 = .ok (.if_icmp .eq 21, 3) := by decide +kernel
theorem dX12_isSignByte_18 : decode cX12_isSignByte 18 = .ok (.iload_n 0, 1) := by decide +kernel
theorem dX12_isSignByte_19 : decode cX12_isSignByte 19 = .ok (.bipush 60, 2) := by decide +kernel
theorem dX12_isSignByte_21 : decode cX12_isSignByte 21 = .ok (.if_icmp .eq 15, 3) := by decide +kernel
theorem dX12_isSignByte_24 : decode cX12_isSignByte 24 = .ok (.iload_n 0, 1) := by decide +kernel
theorem dX12_isSignByte_25 : decode cX12_isSignByte 25 = .ok (.bipush 62, 2) := by decide +kernel
theorem dX12_isSignByte_27 : decode cX12_isSignByte 27 = .ok (.if_icmp .eq 9, 3) := by decide +kernel
theorem dX12_isSignByte_30 : decode cX12_isSignByte 30 = .ok (.iload_n 0, 1) := by decide +kernel
theorem dX12_isSignByte_31 : decode cX12_isSignByte 31 = .ok (.bipush 58, 2) := by decide +kernel
theorem dX12_isSignByte_33 : decode cX12_isSignByte 33 = .ok (.if_icmp .ne 7, 3) := by decide +kernel
theorem dX12_isSignByte_36 : decode cX12_isSignByte 36 = .ok (.iconst 1, 1) := by decide +kernel
theorem dX12_isSignByte_37 : decode cX12_isSignByte 37 = .ok (.goto 4, 3) := by decide +kernel
theorem dX12_isSignByte_40 : decode cX12_isSignByte 40 = .ok (.iconst 0, 1) := by decide +kernel
theorem dX12_isSignByte_41 : decode cX12_isSignByte 41 = .ok (.istore_n 1, 1) := by decide +kernel
theorem dX12_isSignByte_42 : decode cX12_isSignByte 42 = .ok (.iload_n 1, 1) := by decide +kernel
theorem dX12_isSignByte_43 : decode cX12_isSignByte 43 = .ok (.ifCond .ne 39, 3) := by decide +kernel
theorem dX12_isSignByte_46 : decode cX12_isSignByte 46 = .ok (.iload_n 0, 1) := by decide +kernel
theorem dX12_isSignByte_47 : decode cX12_isSignByte 47 = .ok (.bipush 59, 2) := by decide +kernel
theorem dX12_isSignByte_49 : decode cX12_isSignByte 49 = .ok (.if_icmp .eq 33, 3) := by decide +kernel
theorem dX12_isSignByte_52 : decode cX12_isSignByte 52 = .ok (.iload_n 0, 1) := by decide +kernel
theorem dX12_isSignByte_53 : decode cX12_isSignByte 53 = .ok (.bipush 43, 2) := by decide +kernel
theorem dX12_isSignByte_55 : decode cX12_isSignByte 55 = .ok (.if_icmp .eq 27, 3) := by decide +kernel
theorem dX12_isSignByte_58 : decode cX12_isSignByte 58 = .ok (.iload_n 0, 1) := by decide +kernel
theorem dX12_isSignByte_59 : decode cX12_isSignByte 59 = .ok (.bipush 45, 2) := by decide +kernel
theorem dX12_isSignByte_61 : decode cX12_isSignByte 61 = .ok (.if_icmp .eq 21, 3) := by decide +kernel
theorem dX12_isSignByte_64 : decode cX12_isSignByte 64 = .ok (.iload_n 0, 1) := by decide +kernel
theorem dX12_isSignByte_65 : decode cX12_isSignByte 65 = .ok (.bipush 42, 2) := by decide +kernel
theorem dX12_isSignByte_67 : decode cX12_isSignByte 67 = .ok (.if_icmp .eq 15, 3) := by decide +kernel
theorem dX12_isSignByte_70 : decode cX12_isSignByte 70 = .ok (.iload_n 0, 1) := by decide +kernel
theorem dX12_isSignByte_71 : decode cX12_isSignByte 71 = .ok (.bipush 40, 2) := by decide +kernel
theorem dX12_isSignByte_73 : decode cX12_isSignByte 73 = .ok (.if_icmp .eq 9, 3) := by decide +kernel
theorem dX12_isSignByte_76 : decode cX12_isSignByte 76 = .ok (.iload_n 0, 1) := by decide +kernel
theorem dX12_isSignByte_77 : decode cX12_isSignByte 77 = .ok (.bipush 41, 2) := by decide +kernel
theorem dX12_isSignByte_79 : decode cX12_isSignByte 79 = .ok (.if_icmp .ne 7, 3) := by decide +kernel
theorem dX12_isSignByte_82 : decode cX12_isSignByte 82 = .ok (.iconst 1, 1) := by decide +kernel
theorem dX12_isSignByte_83 : decode cX12_isSignByte 83 = .ok (.goto 4, 3) := by decide +kernel
theorem dX12_isSignByte_86 : decode cX12_isSignByte 86 = .ok (.iconst 0, 1) := by decide +kernel
theorem dX12_isSignByte_87 : decode cX12_isSignByte 87 = .ok (.ireturn, 1) := by decide +kernel
theorem dX12_readsOn_0 : decode cX12_readsOn 0 = .ok (.aload_n 0, 1) := by decide +kernel
theorem dX12_readsOn_1 : decode cX12_readsOn 1 = .ok (.getfield 76, 3) := by decide +kernel
theorem dX12_readsOn_4 : decode cX12_readsOn 4 = .ok (.aload_n 0, 1) := by decide +kernel
theorem dX12_readsOn_5 : decode cX12_readsOn 5 = .ok (.getfield 73, 3) := by decide +kernel
theorem dX12_readsOn_8 : decode cX12_readsOn 8 = .ok (.if_icmp .ge 44, 3) := by decide +kernel
theorem dX12_readsOn_11 : decode cX12_readsOn 11 = .ok (.aload_n 0, 1) := by decide +kernel
theorem dX12_readsOn_12 : decode cX12_readsOn 12 = .ok (.getfield 23, 3) := by decide +kernel
theorem dX12_readsOn_15 : decode cX12_readsOn 15 = .ok (.aload_n 0, 1) := by decide +kernel
theorem dX12_readsOn_16 : decode cX12_readsOn 16 = .ok (.getfield 76, 3) := by decide +kernel
theorem dX12_readsOn_19 : decode cX12_readsOn 19 = .ok (.iaload, 1) := by decide +kernel
theorem dX12_readsOn_20 : decode cX12_readsOn 20 = .ok (.bipush 32, 2) := by decide +kernel
theorem dX12_readsOn_22 : decode cX12_readsOn 22 = .ok (.if_icmp .eq 17, 3) := by decide +kernel
theorem dX12_readsOn_25 : decode cX12_readsOn 25 = .ok (.aload_n 0, 1) := by decide +kernel
theorem dX12_readsOn_26 : decode cX12_readsOn 26 = .ok (.getfield 23, 3) := by decide +kernel
theorem dX12_readsOn_29 : decode cX12_readsOn 29 = .ok (.aload_n 0, 1) := by decide +kernel
theorem dX12_readsOn_30 : decode cX12_readsOn 30 = .ok (.getfield 76, 3) := by decide +kernel
theorem dX12_readsOn_33 : decode cX12_readsOn 33 = .ok (.iaload, 1) := by decide +kernel
theorem dX12_readsOn_34 : decode cX12_readsOn 34 = .ok (.bipush 10, 2) := by decide +kernel
theorem dX12_readsOn_36 : decode cX12_readsOn 36 = .ok (.if_icmp .ne 16, 3) := by decide +kernel
theorem dX12_readsOn_39 : decode cX12_readsOn 39 = .ok (.aload_n 0, 1) := by decide +kernel
theorem dX12_readsOn_40 : decode cX12_readsOn 40 = .ok (.dup, 1) := by decide +kernel
theorem dX12_readsOn_41 : decode cX12_readsOn 41 = .ok (.getfield 76, 3) := by decide +kernel
theorem dX12_readsOn_44 : decode cX12_readsOn 44 = .ok (.iconst 1, 1) := by decide +kernel
theorem dX12_readsOn_45 : decode cX12_readsOn 45 = .ok (.iadd, 1) := by decide +kernel
theorem dX12_readsOn_46 : decode cX12_readsOn 46 = .ok (.putfield 76, 3) := by decide +kernel
theorem dX12_readsOn_49 : decode cX12_readsOn 49 = .ok (.goto (-49), 3) := by decide +kernel
theorem dX12_readsOn_52 : decode cX12_readsOn 52 = .ok (.aload_n 0, 1) := by decide +kernel
theorem dX12_readsOn_53 : decode cX12_readsOn 53 = .ok (.aload_n 0, 1) := by decide +kernel
theorem dX12_readsOn_54 : decode cX12_readsOn 54 = .ok (.getfield 76, 3) := by decide +kernel
theorem dX12_readsOn_57 : decode cX12_readsOn 57 = .ok (.putfield 79, 3) := by decide +kernel
theorem dX12_readsOn_60 : decode cX12_readsOn 60 = .ok (.aload_n 0, 1) := by decide +kernel
theorem dX12_readsOn_61 : decode cX12_readsOn 61 = .ok (.getfield 76, 3) := by decide +kernel
theorem dX12_readsOn_64 : decode cX12_readsOn 64 = .ok (.aload_n 0, 1) := by decide +kernel
theorem dX12_readsOn_65 : decode cX12_readsOn 65 = .ok (.getfield 73, 3) := by decide +kernel
theorem dX12_readsOn_68 : decode cX12_readsOn 68 = .ok (.if_icmp .lt 9, 3) := by decide +kernel
theorem dX12_readsOn_71 : decode cX12_readsOn 71 = .ok (.aload_n 0, 1) := by decide +kernel
theorem dX12_readsOn_72 : decode cX12_readsOn 72 = .ok (.iconst 0, 1) := by decide +kernel
theorem dX12_readsOn_73 : decode cX12_readsOn 73 = .ok (.putfield 82, 3) := by decide +kernel
theorem dX12_readsOn_76 : decode cX12_readsOn 76 = .ok (.return_, 1) := by decide +kernel
theorem dX12_readsOn_77 : decode cX12_readsOn 77 = .ok (.aload_n 0, 1) := by decide +kernel
theorem dX12_readsOn_78 : decode cX12_readsOn 78 = .ok (.getfield 23, 3) := by decide +kernel
theorem dX12_readsOn_81 : decode cX12_readsOn 81 = .ok (.aload_n 0, 1) := by decide +kernel
theorem dX12_readsOn_82 : decode cX12_readsOn 82 = .ok (.getfield 76, 3) := by decide +kernel
theorem dX12_readsOn_85 : decode cX12_readsOn 85 = .ok (.iaload, 1) := by decide +kernel
theorem dX12_readsOn_86 : decode cX12_readsOn 86 = .ok (.istore_n 1, 1) := by decide +kernel
theorem dX12_readsOn_87 : decode cX12_readsOn 87 = .ok (.iload_n 1, 1) := by decide +kernel
theorem dX12_readsOn_88 : decode cX12_readsOn 88 = .ok (.invokestatic 85, 3) := by decide +kernel
theorem dX12_readsOn_91 : decode cX12_readsOn 91 = .ok (.ifCond .eq 38, 3) := by decide +kernel
theorem dX12_readsOn_94 : decode cX12_readsOn 94 = .ok (.aload_n 0, 1) := by decide +kernel
theorem dX12_readsOn_95 : decode cX12_readsOn 95 = .ok (.aload_n 0, 1) := by decide +kernel
theorem dX12_readsOn_96 : decode cX12_readsOn 96 = .ok (.getfield 76, 3) := by decide +kernel
theorem dX12_readsOn_99 : decode cX12_readsOn 99 = .ok (.invokevirtual 89, 3) := by decide +kernel
theorem dX12_readsOn_102 : decode cX12_readsOn 102 = .ok (.invokestatic 85, 3) := by decide +kernel
theorem dX12_readsOn_105 : decode cX12_readsOn 105 = .ok (.ifCond .eq 16, 3) := by decide +kernel
theorem dX12_readsOn_108 : decode cX12_readsOn 108 = .ok (.aload_n 0, 1) := by decide +kernel
theorem dX12_readsOn_109 : decode cX12_readsOn 109 = .ok (.dup, 1) := by decide +kernel
theorem dX12_readsOn_110 : decode cX12_readsOn 110 = .ok (.getfield 76, 3) := by decide +kernel
theorem dX12_readsOn_113 : decode cX12_readsOn 113 = .ok (.iconst 1, 1) := by decide +kernel
theorem dX12_readsOn_114 : decode cX12_readsOn 114 = .ok (.iadd, 1) := by decide +kernel
theorem dX12_readsOn_115 : decode cX12_readsOn 115 = .ok (.putfield 76, 3) := by decide +kernel
theorem dX12_readsOn_118 : decode cX12_readsOn 118 = .ok (.goto (-24), 3) := by decide +kernel
theorem dX12_readsOn_121 : decode cX12_readsOn 121 = .ok (.aload_n 0, 1) := by decide +kernel
theorem dX12_readsOn_122 : decode cX12_readsOn 122 = .ok (.iconst 1, 1) := by decide +kernel
theorem dX12_readsOn_123 : decode cX12_readsOn 123 = .ok (.putfield 82, 3) := by decide +kernel
theorem dX12_readsOn_126 : decode cX12_readsOn 126 = .ok (.goto 137, 3) := by decide +kernel
theorem dX12_readsOn_129 : decode cX12_readsOn 129 = .ok (.iload_n 1, 1) := by decide +kernel
theorem dX12_readsOn_130 : decode cX12_readsOn 130 = .ok (.invokestatic 93, 3) := by decide +kernel
theorem dX12_readsOn_133 : decode cX12_readsOn 133 = .ok (.ifCond .eq 104, 3) := by decide +kernel
theorem dX12_readsOn_136 : decode cX12_readsOn 136 = .ok (.aload_n 0, 1) := by decide +kernel
theorem dX12_readsOn_137 : decode cX12_readsOn 137 = .ok (.iconst 0, 1) := by decide +kernel
theorem dX12_readsOn_138 : decode cX12_readsOn 138 = .ok (.putfield 96, 3) := by decide +kernel
theorem dX12_readsOn_141 : decode cX12_readsOn 141 = .ok (.aload_n 0, 1) := by decide +kernel
theorem dX12_readsOn_142 : decode cX12_readsOn 142 = .ok (.aload_n 0, 1) := by decide +kernel
theorem dX12_readsOn_143 : decode cX12_readsOn 143 = .ok (.getfield 76, 3) := by decide +kernel
theorem dX12_readsOn_146 : decode cX12_readsOn 146 = .ok (.invokevirtual 89, 3) := by decide +kernel
theorem dX12_readsOn_149 : decode cX12_readsOn 149 = .ok (.invokestatic 93, 3) := by decide +kernel
theorem dX12_readsOn_152 : decode cX12_readsOn 152 = .ok (.ifCond .eq 60, 3) := by decide +kernel
theorem dX12_readsOn_155 : decode cX12_readsOn 155 = .ok (.aload_n 0, 1) := by decide +kernel
theorem dX12_readsOn_156 : decode cX12_readsOn 156 = .ok (.aload_n 0, 1) := by decide +kernel
theorem dX12_readsOn_157 : decode cX12_readsOn 157 = .ok (.getfield 76, 3) := by decide +kernel
theorem dX12_readsOn_160 : decode cX12_readsOn 160 = .ok (.aload_n 0, 1) := by decide +kernel
theorem dX12_readsOn_161 : decode cX12_readsOn 161 = .ok (.getfield 79, 3) := by decide +kernel
theorem dX12_readsOn_164 : decode cX12_readsOn 164 = .ok (.isub, 1) := by decide +kernel
theorem dX12_readsOn_165 : decode cX12_readsOn 165 = .ok (.iconst 3, 1) := by decide +kernel
theorem dX12_readsOn_166 : decode cX12_readsOn 166 = .ok (.if_icmp .ge 26, 3) := by decide +kernel
theorem dX12_readsOn_169 : decode cX12_readsOn 169 = .ok (.bipush 10, 2) := by decide +kernel
theorem dX12_readsOn_171 : decode cX12_readsOn 171 = .ok (.aload_n 0, 1) := by decide +kernel
theorem dX12_readsOn_172 : decode cX12_readsOn 172 = .ok (.getfield 96, 3) := by decide +kernel
theorem dX12_readsOn_175 : decode cX12_readsOn 175 = .ok (.imul, 1) := by decide +kernel
theorem dX12_readsOn_176 : decode cX12_readsOn 176 = .ok (.aload_n 0, 1) := by decide +kernel
theorem dX12_readsOn_177 : decode cX12_readsOn 177 = .ok (.getfield 23, 3) := by decide +kernel
theorem dX12_readsOn_180 : decode cX12_readsOn 180 = .ok (.aload_n 0, 1) := by decide +kernel
theorem dX12_readsOn_181 : decode cX12_readsOn 181 = .ok (.getfield 76, 3) := by decide +kernel
theorem dX12_readsOn_184 : decode cX12_readsOn 184 = .ok (.iaload, 1) := by decide +kernel
theorem dX12_readsOn_185 : decode cX12_readsOn 185 = .ok (.iadd, 1) := by decide +kernel
theorem dX12_readsOn_186 : decode cX12_readsOn 186 = .ok (.bipush 48, 2) := by decide +kernel
theorem dX12_readsOn_188 : decode cX12_readsOn 188 = .ok (.isub, 1) := by decide +kernel
theorem dX12_readsOn_189 : decode cX12_readsOn 189 = .ok (.goto 7, 3) := by decide +kernel
theorem dX12_readsOn_192 : decode cX12_readsOn 192 = .ok (.aload_n 0, 1) := by decide +kernel
theorem dX12_readsOn_193 : decode cX12_readsOn 193 = .ok (.getfield 96, 3) := by decide +kernel
theorem dX12_readsOn_196 : decode cX12_readsOn 196 = .ok (.putfield 96, 3) := by decide +kernel
theorem dX12_readsOn_199 : decode cX12_readsOn 199 = .ok (.aload_n 0, 1) := by decide +kernel
theorem dX12_readsOn_200 : decode cX12_readsOn 200 = .ok (.dup, 1) := by decide +kernel
theorem dX12_readsOn_201 : decode cX12_readsOn 201 = .ok (.getfield 76, 3) := by decide +kernel
theorem dX12_readsOn_204 : decode cX12_readsOn 204 = .ok (.iconst 1, 1) := by decide +kernel
theorem dX12_readsOn_205 : decode cX12_readsOn 205 = .ok (.iadd, 1) := by decide +kernel
theorem dX12_readsOn_206 : decode cX12_readsOn 206 = .ok (.putfield 76, 3) := by decide +kernel
theorem dX12_readsOn_209 : decode cX12_readsOn 209 = .ok (.goto (-68), 3) := by decide +kernel
theorem dX12_readsOn_212 : decode cX12_readsOn 212 = .ok (.aload_n 0, 1) := by decide +kernel
theorem dX12_readsOn_213 : decode cX12_readsOn 213 = .ok (.aload_n 0, 1) := by decide +kernel
theorem dX12_readsOn_214 : decode cX12_readsOn 214 = .ok (.getfield 76, 3) := by decide +kernel
theorem dX12_readsOn_217 : decode cX12_readsOn 217 = .ok (.aload_n 0, 1) := by decide +kernel
theorem dX12_readsOn_218 : decode cX12_readsOn 218 = .ok (.getfield 79, 3) := by decide +kernel
theorem dX12_readsOn_221 : decode cX12_readsOn 221 = .ok (.isub, 1) := by decide +kernel
theorem dX12_readsOn_222 : decode cX12_readsOn 222 = .ok (.iconst 3, 1) := by decide +kernel
theorem dX12_readsOn_223 : decode cX12_readsOn 223 = .ok (.if_icmp .le 7, 3) := by decide +kernel
theorem dX12_readsOn_226 : decode cX12_readsOn 226 = .ok (.iconst 3, 1) := by decide +kernel
theorem dX12_readsOn_227 : decode cX12_readsOn 227 = .ok (.goto 4, 3) := by decide +kernel
theorem dX12_readsOn_230 : decode cX12_readsOn 230 = .ok (.iconst 2, 1) := by decide +kernel
theorem dX12_readsOn_231 : decode cX12_readsOn 231 = .ok (.putfield 82, 3) := by decide +kernel
theorem dX12_readsOn_234 : decode cX12_readsOn 234 = .ok (.goto 29, 3) := by decide +kernel
theorem dX12_readsOn_237 : decode cX12_readsOn 237 = .ok (.aload_n 0, 1) := by decide +kernel
theorem dX12_readsOn_238 : decode cX12_readsOn 238 = .ok (.iload_n 1, 1) := by decide +kernel
theorem dX12_readsOn_239 : decode cX12_readsOn 239 = .ok (.invokestatic 99, 3) := by decide +kernel
theorem dX12_readsOn_242 : decode cX12_readsOn 242 = .ok (.ifCond .eq 7, 3) := by decide +kernel
theorem dX12_readsOn_245 : decode cX12_readsOn 245 = .ok (.iload_n 1, 1) := by decide +kernel
theorem dX12_readsOn_246 : decode cX12_readsOn 246 = .ok (.goto 4, 3) := by decide +kernel
theorem dX12_readsOn_249 : decode cX12_readsOn 249 = .ok (.iconst 3, 1) := by decide +kernel
theorem dX12_readsOn_250 : decode cX12_readsOn 250 = .ok (.putfield 82, 3) := by decide +kernel
theorem dX12_readsOn_253 : decode cX12_readsOn 253 = .ok (.aload_n 0, 1) := by decide +kernel
theorem dX12_readsOn_254 : decode cX12_readsOn 254 = .ok (.dup, 1) := by decide +kernel
theorem dX12_readsOn_255 : decode cX12_readsOn 255 = .ok (.getfield 76, 3) := by decide +kernel
theorem dX12_readsOn_258 : decode cX12_readsOn 258 = .ok (.iconst 1, 1) := by decide +kernel
theorem dX12_readsOn_259 : decode cX12_readsOn 259 = .ok (.iadd, 1) := by decide +kernel
theorem dX12_readsOn_260 : decode cX12_readsOn 260 = .ok (.putfield 76, 3) := by decide +kernel
theorem dX12_readsOn_263 : decode cX12_readsOn 263 = .ok (.return_, 1) := by decide +kernel
theorem dX12_blames_0 : decode cX12_blames 0 = .ok (.aload_n 0, 1) := by decide +kernel
theorem dX12_blames_1 : decode cX12_blames 1 = .ok (.getfield 102, 3) := by decide +kernel
theorem dX12_blames_4 : decode cX12_blames 4 = .ok (.ifCond .eq 4, 3) := by decide +kernel
theorem dX12_blames_7 : decode cX12_blames 7 = .ok (.return_, 1) := by decide +kernel
theorem dX12_blames_8 : decode cX12_blames 8 = .ok (.aload_n 0, 1) := by decide +kernel
theorem dX12_blames_9 : decode cX12_blames 9 = .ok (.aload_n 0, 1) := by decide +kernel
theorem dX12_blames_10 : decode cX12_blames 10 = .ok (.getfield 82, 3) := by decide +kernel
theorem dX12_blames_13 : decode cX12_blames 13 = .ok (.iconst 3, 1) := by decide +kernel
theorem dX12_blames_14 : decode cX12_blames 14 = .ok (.if_icmp .ne 7, 3) := by decide +kernel
theorem dX12_blames_17 : decode cX12_blames 17 = .ok (.iconst 1, 1) := by decide +kernel
theorem dX12_blames_18 : decode cX12_blames 18 = .ok (.goto 4, 3) := by decide +kernel
theorem dX12_blames_21 : decode cX12_blames 21 = .ok (.iload_n 1, 1) := by decide +kernel
theorem dX12_blames_22 : decode cX12_blames 22 = .ok (.putfield 102, 3) := by decide +kernel
theorem dX12_blames_25 : decode cX12_blames 25 = .ok (.aload_n 0, 1) := by decide +kernel
theorem dX12_blames_26 : decode cX12_blames 26 = .ok (.aload_n 0, 1) := by decide +kernel
theorem dX12_blames_27 : decode cX12_blames 27 = .ok (.getfield 79, 3) := by decide +kernel
theorem dX12_blames_30 : decode cX12_blames 30 = .ok (.putfield 105, 3) := by decide +kernel
theorem dX12_blames_33 : decode cX12_blames 33 = .ok (.return_, 1) := by decide +kernel
theorem dX12_isWord_0 : decode cX12_isWord 0 = .ok (.aload_n 0, 1) := by decide +kernel
theorem dX12_isWord_1 : decode cX12_isWord 1 = .ok (.getfield 102, 3) := by decide +kernel
theorem dX12_isWord_4 : decode cX12_isWord 4 = .ok (.ifCond .ne 31, 3) := by decide +kernel
theorem dX12_isWord_7 : decode cX12_isWord 7 = .ok (.aload_n 0, 1) := by decide +kernel
theorem dX12_isWord_8 : decode cX12_isWord 8 = .ok (.getfield 82, 3) := by decide +kernel
theorem dX12_isWord_11 : decode cX12_isWord 11 = .ok (.iconst 1, 1) := by decide +kernel
theorem dX12_isWord_12 : decode cX12_isWord 12 = .ok (.if_icmp .ne 23, 3) := by decide +kernel
theorem dX12_isWord_15 : decode cX12_isWord 15 = .ok (.aload_n 0, 1) := by decide +kernel
theorem dX12_isWord_16 : decode cX12_isWord 16 = .ok (.getfield 76, 3) := by decide +kernel
theorem dX12_isWord_19 : decode cX12_isWord 19 = .ok (.aload_n 0, 1) := by decide +kernel
theorem dX12_isWord_20 : decode cX12_isWord 20 = .ok (.getfield 79, 3) := by decide +kernel
theorem dX12_isWord_23 : decode cX12_isWord 23 = .ok (.isub, 1) := by decide +kernel
theorem dX12_isWord_24 : decode cX12_isWord 24 = .ok (.aload_n 1, 1) := by decide +kernel
theorem dX12_isWord_25 : decode cX12_isWord 25 = .ok (.invokevirtual 108, 3) := by decide +kernel
theorem dX12_isWord_28 : decode cX12_isWord 28 = .ok (.if_icmp .ne 7, 3) := by decide +kernel
theorem dX12_isWord_31 : decode cX12_isWord 31 = .ok (.iconst 1, 1) := by decide +kernel
theorem dX12_isWord_32 : decode cX12_isWord 32 = .ok (.goto 4, 3) := by decide +kernel
theorem dX12_isWord_35 : decode cX12_isWord 35 = .ok (.iconst 0, 1) := by decide +kernel
theorem dX12_isWord_36 : decode cX12_isWord 36 = .ok (.istore_n 2, 1) := by decide +kernel
theorem dX12_isWord_37 : decode cX12_isWord 37 = .ok (.iconst 0, 1) := by decide +kernel
theorem dX12_isWord_38 : decode cX12_isWord 38 = .ok (.istore_n 3, 1) := by decide +kernel
theorem dX12_isWord_39 : decode cX12_isWord 39 = .ok (.iload_n 2, 1) := by decide +kernel
theorem dX12_isWord_40 : decode cX12_isWord 40 = .ok (.ifCond .eq 42, 3) := by decide +kernel
theorem dX12_isWord_43 : decode cX12_isWord 43 = .ok (.iload_n 3, 1) := by decide +kernel
theorem dX12_isWord_44 : decode cX12_isWord 44 = .ok (.aload_n 1, 1) := by decide +kernel
theorem dX12_isWord_45 : decode cX12_isWord 45 = .ok (.invokevirtual 108, 3) := by decide +kernel
theorem dX12_isWord_48 : decode cX12_isWord 48 = .ok (.if_icmp .ge 34, 3) := by decide +kernel
theorem dX12_isWord_51 : decode cX12_isWord 51 = .ok (.aload_n 0, 1) := by decide +kernel
theorem dX12_isWord_52 : decode cX12_isWord 52 = .ok (.getfield 23, 3) := by decide +kernel
theorem dX12_isWord_55 : decode cX12_isWord 55 = .ok (.aload_n 0, 1) := by decide +kernel
theorem dX12_isWord_56 : decode cX12_isWord 56 = .ok (.getfield 79, 3) := by decide +kernel
theorem dX12_isWord_59 : decode cX12_isWord 59 = .ok (.iload_n 3, 1) := by decide +kernel
theorem dX12_isWord_60 : decode cX12_isWord 60 = .ok (.iadd, 1) := by decide +kernel
theorem dX12_isWord_61 : decode cX12_isWord 61 = .ok (.iaload, 1) := by decide +kernel
theorem dX12_isWord_62 : decode cX12_isWord 62 = .ok (.aload_n 1, 1) := by decide +kernel
theorem dX12_isWord_63 : decode cX12_isWord 63 = .ok (.iload_n 3, 1) := by decide +kernel
theorem dX12_isWord_64 : decode cX12_isWord 64 = .ok (.invokevirtual 113, 3) := by decide +kernel
theorem dX12_isWord_67 : decode cX12_isWord 67 = .ok (.if_icmp .ne 7, 3) := by decide +kernel
theorem dX12_isWord_70 : decode cX12_isWord 70 = .ok (.iconst 1, 1) := by decide +kernel
theorem dX12_isWord_71 : decode cX12_isWord 71 = .ok (.goto 4, 3) := by decide +kernel
theorem dX12_isWord_74 : decode cX12_isWord 74 = .ok (.iconst 0, 1) := by decide +kernel
theorem dX12_isWord_75 : decode cX12_isWord 75 = .ok (.istore_n 2, 1) := by decide +kernel
theorem dX12_isWord_76 : decode cX12_isWord 76 = .ok (.iinc 3 1, 3) := by decide +kernel
theorem dX12_isWord_79 : decode cX12_isWord 79 = .ok (.goto (-40), 3) := by decide +kernel
theorem dX12_isWord_82 : decode cX12_isWord 82 = .ok (.iload_n 2, 1) := by decide +kernel
theorem dX12_isWord_83 : decode cX12_isWord 83 = .ok (.ireturn, 1) := by decide +kernel
theorem dX12_took_0 : decode cX12_took 0 = .ok (.aload_n 0, 1) := by decide +kernel
theorem dX12_took_1 : decode cX12_took 1 = .ok (.aload_n 1, 1) := by decide +kernel
theorem dX12_took_2 : decode cX12_took 2 = .ok (.invokevirtual 117, 3) := by decide +kernel
theorem dX12_took_5 : decode cX12_took 5 = .ok (.istore_n 2, 1) := by decide +kernel
theorem dX12_took_6 : decode cX12_took 6 = .ok (.iload_n 2, 1) := by decide +kernel
theorem dX12_took_7 : decode cX12_took 7 = .ok (.ifCond .eq 7, 3) := by decide +kernel
theorem dX12_took_10 : decode cX12_took 10 = .ok (.aload_n 0, 1) := by decide +kernel
theorem dX12_took_11 : decode cX12_took 11 = .ok (.invokevirtual 121, 3) := by decide +kernel
theorem dX12_took_14 : decode cX12_took 14 = .ok (.iload_n 2, 1) := by decide +kernel
theorem dX12_took_15 : decode cX12_took 15 = .ok (.ireturn, 1) := by decide +kernel
theorem dX12_isSign_0 : decode cX12_isSign 0 = .ok (.aload_n 0, 1) := by decide +kernel
theorem dX12_isSign_1 : decode cX12_isSign 1 = .ok (.getfield 102, 3) := by decide +kernel
theorem dX12_isSign_4 : decode cX12_isSign 4 = .ok (.ifCond .ne 15, 3) := by decide +kernel
theorem dX12_isSign_7 : decode cX12_isSign 7 = .ok (.aload_n 0, 1) := by decide +kernel
theorem dX12_isSign_8 : decode cX12_isSign 8 = .ok (.getfield 82, 3) := by decide +kernel
theorem dX12_isSign_11 : decode cX12_isSign 11 = .ok (.iload_n 1, 1) := by decide +kernel
theorem dX12_isSign_12 : decode cX12_isSign 12 = .ok (.if_icmp .ne 7, 3) := by decide +kernel
theorem dX12_isSign_15 : decode cX12_isSign 15 = .ok (.iconst 1, 1) := by decide +kernel
theorem dX12_isSign_16 : decode cX12_isSign 16 = .ok (.goto 4, 3) := by decide +kernel
theorem dX12_isSign_19 : decode cX12_isSign 19 = .ok (.iconst 0, 1) := by decide +kernel
theorem dX12_isSign_20 : decode cX12_isSign 20 = .ok (.ireturn, 1) := by decide +kernel
theorem dX12_mustSign_0 : decode cX12_mustSign 0 = .ok (.aload_n 0, 1) := by decide +kernel
theorem dX12_mustSign_1 : decode cX12_mustSign 1 = .ok (.getfield 82, 3) := by decide +kernel
theorem dX12_mustSign_4 : decode cX12_mustSign 4 = .ok (.iload_n 1, 1) := by decide +kernel
theorem dX12_mustSign_5 : decode cX12_mustSign 5 = .ok (.if_icmp .eq 8, 3) := by decide +kernel
theorem dX12_mustSign_8 : decode cX12_mustSign 8 = .ok (.aload_n 0, 1) := by decide +kernel
theorem dX12_mustSign_9 : decode cX12_mustSign 9 = .ok (.iconst 2, 1) := by decide +kernel
theorem dX12_mustSign_10 : decode cX12_mustSign 10 = .ok (.invokevirtual 124, 3) := by decide +kernel
theorem dX12_mustSign_13 : decode cX12_mustSign 13 = .ok (.aload_n 0, 1) := by decide +kernel
theorem dX12_mustSign_14 : decode cX12_mustSign 14 = .ok (.getfield 102, 3) := by decide +kernel
theorem dX12_mustSign_17 : decode cX12_mustSign 17 = .ok (.ifCond .ne 7, 3) := by decide +kernel
theorem dX12_mustSign_20 : decode cX12_mustSign 20 = .ok (.aload_n 0, 1) := by decide +kernel
theorem dX12_mustSign_21 : decode cX12_mustSign 21 = .ok (.invokevirtual 121, 3) := by decide +kernel
theorem dX12_mustSign_24 : decode cX12_mustSign 24 = .ok (.return_, 1) := by decide +kernel
theorem dX12_number_0 : decode cX12_number 0 = .ok (.aload_n 0, 1) := by decide +kernel
theorem dX12_number_1 : decode cX12_number 1 = .ok (.getfield 82, 3) := by decide +kernel
theorem dX12_number_4 : decode cX12_number 4 = .ok (.iconst 2, 1) := by decide +kernel
theorem dX12_number_5 : decode cX12_number 5 = .ok (.if_icmp .eq 11, 3) := by decide +kernel
theorem dX12_number_8 : decode cX12_number 8 = .ok (.aload_n 0, 1) := by decide +kernel
theorem dX12_number_9 : decode cX12_number 9 = .ok (.iconst 2, 1) := by decide +kernel
theorem dX12_number_10 : decode cX12_number 10 = .ok (.invokevirtual 124, 3) := by decide +kernel
theorem dX12_number_13 : decode cX12_number 13 = .ok (.goto 23, 3) := by decide +kernel
theorem dX12_number_16 : decode cX12_number 16 = .ok (.aload_n 0, 1) := by decide +kernel
theorem dX12_number_17 : decode cX12_number 17 = .ok (.getfield 96, 3) := by decide +kernel
theorem dX12_number_20 : decode cX12_number 20 = .ok (.i2l, 1) := by decide +kernel
theorem dX12_number_21 : decode cX12_number 21 = .ok (.iload_n 1, 1) := by decide +kernel
theorem dX12_number_22 : decode cX12_number 22 = .ok (.i2l, 1) := by decide +kernel
theorem dX12_number_23 : decode cX12_number 23 = .ok (.iload_n 2, 1) := by decide +kernel
theorem dX12_number_24 : decode cX12_number 24 = .ok (.i2l, 1) := by decide +kernel
theorem dX12_number_25 : decode cX12_number 25 = .ok (.invokestatic 128, 3) := by decide +kernel
theorem dX12_number_28 : decode cX12_number 28 = .ok (.ifCond .ne 8, 3) := by decide +kernel
theorem dX12_number_31 : decode cX12_number 31 = .ok (.aload_n 0, 1) := by decide +kernel
theorem dX12_number_32 : decode cX12_number 32 = .ok (.iconst 3, 1) := by decide +kernel
theorem dX12_number_33 : decode cX12_number 33 = .ok (.invokevirtual 124, 3) := by decide +kernel
theorem dX12_number_36 : decode cX12_number 36 = .ok (.aload_n 0, 1) := by decide +kernel
theorem dX12_number_37 : decode cX12_number 37 = .ok (.getfield 96, 3) := by decide +kernel
theorem dX12_number_40 : decode cX12_number 40 = .ok (.istore_n 3, 1) := by decide +kernel
theorem dX12_number_41 : decode cX12_number 41 = .ok (.aload_n 0, 1) := by decide +kernel
theorem dX12_number_42 : decode cX12_number 42 = .ok (.getfield 102, 3) := by decide +kernel
theorem dX12_number_45 : decode cX12_number 45 = .ok (.ifCond .ne 7, 3) := by decide +kernel
theorem dX12_number_48 : decode cX12_number 48 = .ok (.aload_n 0, 1) := by decide +kernel
theorem dX12_number_49 : decode cX12_number 49 = .ok (.invokevirtual 121, 3) := by decide +kernel
theorem dX12_number_52 : decode cX12_number 52 = .ok (.aload_n 0, 1) := by decide +kernel
theorem dX12_number_53 : decode cX12_number 53 = .ok (.getfield 102, 3) := by decide +kernel
theorem dX12_number_56 : decode cX12_number 56 = .ok (.ifCond .ne 7, 3) := by decide +kernel
theorem dX12_number_59 : decode cX12_number 59 = .ok (.iload_n 3, 1) := by decide +kernel
theorem dX12_number_60 : decode cX12_number 60 = .ok (.goto 4, 3) := by decide +kernel
theorem dX12_number_63 : decode cX12_number 63 = .ok (.iload_n 1, 1) := by decide +kernel
theorem dX12_number_64 : decode cX12_number 64 = .ok (.ireturn, 1) := by decide +kernel
theorem dX12_mustWord_0 : decode cX12_mustWord 0 = .ok (.aload_n 0, 1) := by decide +kernel
theorem dX12_mustWord_1 : decode cX12_mustWord 1 = .ok (.aload_n 1, 1) := by decide +kernel
theorem dX12_mustWord_2 : decode cX12_mustWord 2 = .ok (.invokevirtual 132, 3) := by decide +kernel
theorem dX12_mustWord_5 : decode cX12_mustWord 5 = .ok (.ifCond .ne 8, 3) := by decide +kernel
theorem dX12_mustWord_8 : decode cX12_mustWord 8 = .ok (.aload_n 0, 1) := by decide +kernel
theorem dX12_mustWord_9 : decode cX12_mustWord 9 = .ok (.iconst 2, 1) := by decide +kernel
theorem dX12_mustWord_10 : decode cX12_mustWord 10 = .ok (.invokevirtual 124, 3) := by decide +kernel
theorem dX12_mustWord_13 : decode cX12_mustWord 13 = .ok (.return_, 1) := by decide +kernel
theorem dX12_laysStep_0 : decode cX12_laysStep 0 = .ok (.aload_n 0, 1) := by decide +kernel
theorem dX12_laysStep_1 : decode cX12_laysStep 1 = .ok (.getfield 102, 3) := by decide +kernel
theorem dX12_laysStep_4 : decode cX12_laysStep 4 = .ok (.ifCond .eq 4, 3) := by decide +kernel
theorem dX12_laysStep_7 : decode cX12_laysStep 7 = .ok (.return_, 1) := by decide +kernel
theorem dX12_laysStep_8 : decode cX12_laysStep 8 = .ok (.aload_n 0, 1) := by decide +kernel
theorem dX12_laysStep_9 : decode cX12_laysStep 9 = .ok (.getfield 13, 3) := by decide +kernel
theorem dX12_laysStep_12 : decode cX12_laysStep 12 = .ok (.aload_n 0, 1) := by decide +kernel
theorem dX12_laysStep_13 : decode cX12_laysStep 13 = .ok (.getfield 135, 3) := by decide +kernel
theorem dX12_laysStep_16 : decode cX12_laysStep 16 = .ok (.aload_n 0, 1) := by decide +kernel
theorem dX12_laysStep_17 : decode cX12_laysStep 17 = .ok (.getfield 13, 3) := by decide +kernel
theorem dX12_laysStep_20 : decode cX12_laysStep 20 = .ok (.aload_n 0, 1) := by decide +kernel
theorem dX12_laysStep_21 : decode cX12_laysStep 21 = .ok (.getfield 138, 3) := by decide +kernel
theorem dX12_laysStep_24 : decode cX12_laysStep 24 = .ok (.iaload, 1) := by decide +kernel
theorem dX12_laysStep_25 : decode cX12_laysStep 25 = .ok (.iadd, 1) := by decide +kernel
theorem dX12_laysStep_26 : decode cX12_laysStep 26 = .ok (.iload_n 1, 1) := by decide +kernel
theorem dX12_laysStep_27 : decode cX12_laysStep 27 = .ok (.iastore, 1) := by decide +kernel
theorem dX12_laysStep_28 : decode cX12_laysStep 28 = .ok (.aload_n 0, 1) := by decide +kernel
theorem dX12_laysStep_29 : decode cX12_laysStep 29 = .ok (.getfield 13, 3) := by decide +kernel
theorem dX12_laysStep_32 : decode cX12_laysStep 32 = .ok (.aload_n 0, 1) := by decide +kernel
theorem dX12_laysStep_33 : decode cX12_laysStep 33 = .ok (.getfield 138, 3) := by decide +kernel
theorem dX12_laysStep_36 : decode cX12_laysStep 36 = .ok (.dup2, 1) := by decide +kernel
theorem dX12_laysStep_37 : decode cX12_laysStep 37 = .ok (.iaload, 1) := by decide +kernel
theorem dX12_laysStep_38 : decode cX12_laysStep 38 = .ok (.iconst 1, 1) := by decide +kernel
theorem dX12_laysStep_39 : decode cX12_laysStep 39 = .ok (.iadd, 1) := by decide +kernel
theorem dX12_laysStep_40 : decode cX12_laysStep 40 = .ok (.iastore, 1) := by decide +kernel
theorem dX12_laysStep_41 : decode cX12_laysStep 41 = .ok (.return_, 1) := by decide +kernel
theorem dX12_beginsLaw_0 : decode cX12_beginsLaw 0 = .ok (.aload_n 0, 1) := by decide +kernel
theorem dX12_beginsLaw_1 : decode cX12_beginsLaw 1 = .ok (.iload_n 1, 1) := by decide +kernel
theorem dX12_beginsLaw_2 : decode cX12_beginsLaw 2 = .ok (.putfield 138, 3) := by decide +kernel
theorem dX12_beginsLaw_5 : decode cX12_beginsLaw 5 = .ok (.aload_n 0, 1) := by decide +kernel
theorem dX12_beginsLaw_6 : decode cX12_beginsLaw 6 = .ok (.iload_n 2, 1) := by decide +kernel
theorem dX12_beginsLaw_7 : decode cX12_beginsLaw 7 = .ok (.putfield 135, 3) := by decide +kernel
theorem dX12_beginsLaw_10 : decode cX12_beginsLaw 10 = .ok (.aload_n 0, 1) := by decide +kernel
theorem dX12_beginsLaw_11 : decode cX12_beginsLaw 11 = .ok (.getfield 13, 3) := by decide +kernel
theorem dX12_beginsLaw_14 : decode cX12_beginsLaw 14 = .ok (.iload_n 1, 1) := by decide +kernel
theorem dX12_beginsLaw_15 : decode cX12_beginsLaw 15 = .ok (.iconst 0, 1) := by decide +kernel
theorem dX12_beginsLaw_16 : decode cX12_beginsLaw 16 = .ok (.iastore, 1) := by decide +kernel
theorem dX12_beginsLaw_17 : decode cX12_beginsLaw 17 = .ok (.aload_n 0, 1) := by decide +kernel
theorem dX12_beginsLaw_18 : decode cX12_beginsLaw 18 = .ok (.bipush 58, 2) := by decide +kernel
theorem dX12_beginsLaw_20 : decode cX12_beginsLaw 20 = .ok (.invokevirtual 141, 3) := by decide +kernel
theorem dX12_beginsLaw_23 : decode cX12_beginsLaw 23 = .ok (.return_, 1) := by decide +kernel
theorem dX12_goesIn_0 : decode cX12_goesIn 0 = .ok (.aload_n 0, 1) := by decide +kernel
theorem dX12_goesIn_1 : decode cX12_goesIn 1 = .ok (.getfield 144, 3) := by decide +kernel
theorem dX12_goesIn_4 : decode cX12_goesIn 4 = .ok (.bipush 6, 2) := by decide +kernel
theorem dX12_goesIn_6 : decode cX12_goesIn 6 = .ok (.if_icmp .ne 8, 3) := by decide +kernel
theorem dX12_goesIn_9 : decode cX12_goesIn 9 = .ok (.aload_n 0, 1) := by decide +kernel
theorem dX12_goesIn_10 : decode cX12_goesIn 10 = .ok (.iconst 4, 1) := by decide +kernel
theorem dX12_goesIn_11 : decode cX12_goesIn 11 = .ok (.invokevirtual 124, 3) := by decide +kernel
theorem dX12_goesIn_14 : decode cX12_goesIn 14 = .ok (.aload_n 0, 1) := by decide +kernel
theorem dX12_goesIn_15 : decode cX12_goesIn 15 = .ok (.dup, 1) := by decide +kernel
theorem dX12_goesIn_16 : decode cX12_goesIn 16 = .ok (.getfield 144, 3) := by decide +kernel
theorem dX12_goesIn_19 : decode cX12_goesIn 19 = .ok (.iconst 1, 1) := by decide +kernel
theorem dX12_goesIn_20 : decode cX12_goesIn 20 = .ok (.iadd, 1) := by decide +kernel
theorem dX12_goesIn_21 : decode cX12_goesIn 21 = .ok (.putfield 144, 3) := by decide +kernel
theorem dX12_goesIn_24 : decode cX12_goesIn 24 = .ok (.aload_n 0, 1) := by decide +kernel
theorem dX12_goesIn_25 : decode cX12_goesIn 25 = .ok (.getfield 102, 3) := by decide +kernel
theorem dX12_goesIn_28 : decode cX12_goesIn 28 = .ok (.ifCond .ne 7, 3) := by decide +kernel
theorem dX12_goesIn_31 : decode cX12_goesIn 31 = .ok (.aload_n 0, 1) := by decide +kernel
theorem dX12_goesIn_32 : decode cX12_goesIn 32 = .ok (.invokevirtual 121, 3) := by decide +kernel
theorem dX12_goesIn_35 : decode cX12_goesIn 35 = .ok (.return_, 1) := by decide +kernel
theorem dX12_readTruth_0 : decode cX12_readTruth 0 = .ok (.aload_n 0, 1) := by decide +kernel
theorem dX12_readTruth_1 : decode cX12_readTruth 1 = .ok (.invokevirtual 147, 3) := by decide +kernel
theorem dX12_readTruth_4 : decode cX12_readTruth 4 = .ok (.aload_n 0, 1) := by decide +kernel
theorem dX12_readTruth_5 : decode cX12_readTruth 5 = .ok (.ldc 150, 2) := by decide +kernel
theorem dX12_readTruth_7 : decode cX12_readTruth 7 = .ok (.invokevirtual 132, 3) := by decide +kernel
theorem dX12_readTruth_10 : decode cX12_readTruth 10 = .ok (.ifCond .eq 16, 3) := by decide +kernel
theorem dX12_readTruth_13 : decode cX12_readTruth 13 = .ok (.aload_n 0, 1) := by decide +kernel
theorem dX12_readTruth_14 : decode cX12_readTruth 14 = .ok (.invokevirtual 147, 3) := by decide +kernel
theorem dX12_readTruth_17 : decode cX12_readTruth 17 = .ok (.aload_n 0, 1) := by decide +kernel
theorem dX12_readTruth_18 : decode cX12_readTruth 18 = .ok (.bipush 17, 2) := by decide +kernel
theorem dX12_readTruth_20 : decode cX12_readTruth 20 = .ok (.invokevirtual 152, 3) := by decide +kernel
theorem dX12_readTruth_23 : decode cX12_readTruth 23 = .ok (.goto (-19), 3) := by decide +kernel
theorem dX12_readTruth_26 : decode cX12_readTruth 26 = .ok (.return_, 1) := by decide +kernel
theorem dX12_readBoth_0 : decode cX12_readBoth 0 = .ok (.aload_n 0, 1) := by decide +kernel
theorem dX12_readBoth_1 : decode cX12_readBoth 1 = .ok (.invokevirtual 155, 3) := by decide +kernel
theorem dX12_readBoth_4 : decode cX12_readBoth 4 = .ok (.aload_n 0, 1) := by decide +kernel
theorem dX12_readBoth_5 : decode cX12_readBoth 5 = .ok (.ldc 158, 2) := by decide +kernel
theorem dX12_readBoth_7 : decode cX12_readBoth 7 = .ok (.invokevirtual 132, 3) := by decide +kernel
theorem dX12_readBoth_10 : decode cX12_readBoth 10 = .ok (.ifCond .eq 16, 3) := by decide +kernel
theorem dX12_readBoth_13 : decode cX12_readBoth 13 = .ok (.aload_n 0, 1) := by decide +kernel
theorem dX12_readBoth_14 : decode cX12_readBoth 14 = .ok (.invokevirtual 155, 3) := by decide +kernel
theorem dX12_readBoth_17 : decode cX12_readBoth 17 = .ok (.aload_n 0, 1) := by decide +kernel
theorem dX12_readBoth_18 : decode cX12_readBoth 18 = .ok (.bipush 16, 2) := by decide +kernel
theorem dX12_readBoth_20 : decode cX12_readBoth 20 = .ok (.invokevirtual 152, 3) := by decide +kernel
theorem dX12_readBoth_23 : decode cX12_readBoth 23 = .ok (.goto (-19), 3) := by decide +kernel
theorem dX12_readBoth_26 : decode cX12_readBoth 26 = .ok (.return_, 1) := by decide +kernel
theorem dX12_readUnit_0 : decode cX12_readUnit 0 = .ok (.aload_n 0, 1) := by decide +kernel
theorem dX12_readUnit_1 : decode cX12_readUnit 1 = .ok (.getfield 102, 3) := by decide +kernel
theorem dX12_readUnit_4 : decode cX12_readUnit 4 = .ok (.ifCond .eq 4, 3) := by decide +kernel
theorem dX12_readUnit_7 : decode cX12_readUnit 7 = .ok (.return_, 1) := by decide +kernel
theorem dX12_readUnit_8 : decode cX12_readUnit 8 = .ok (.aload_n 0, 1) := by decide +kernel
theorem dX12_readUnit_9 : decode cX12_readUnit 9 = .ok (.ldc 160, 2) := by decide +kernel
theorem dX12_readUnit_11 : decode cX12_readUnit 11 = .ok (.invokevirtual 117, 3) := by decide +kernel
theorem dX12_readUnit_14 : decode cX12_readUnit 14 = .ok (.ifCond .eq 30, 3) := by decide +kernel
theorem dX12_readUnit_17 : decode cX12_readUnit 17 = .ok (.aload_n 0, 1) := by decide +kernel
theorem dX12_readUnit_18 : decode cX12_readUnit 18 = .ok (.invokevirtual 162, 3) := by decide +kernel
theorem dX12_readUnit_21 : decode cX12_readUnit 21 = .ok (.aload_n 0, 1) := by decide +kernel
theorem dX12_readUnit_22 : decode cX12_readUnit 22 = .ok (.invokevirtual 155, 3) := by decide +kernel
theorem dX12_readUnit_25 : decode cX12_readUnit 25 = .ok (.aload_n 0, 1) := by decide +kernel
theorem dX12_readUnit_26 : decode cX12_readUnit 26 = .ok (.bipush 18, 2) := by decide +kernel
theorem dX12_readUnit_28 : decode cX12_readUnit 28 = .ok (.invokevirtual 152, 3) := by decide +kernel
theorem dX12_readUnit_31 : decode cX12_readUnit 31 = .ok (.aload_n 0, 1) := by decide +kernel
theorem dX12_readUnit_32 : decode cX12_readUnit 32 = .ok (.dup, 1) := by decide +kernel
theorem dX12_readUnit_33 : decode cX12_readUnit 33 = .ok (.getfield 144, 3) := by decide +kernel
theorem dX12_readUnit_36 : decode cX12_readUnit 36 = .ok (.iconst 1, 1) := by decide +kernel
theorem dX12_readUnit_37 : decode cX12_readUnit 37 = .ok (.isub, 1) := by decide +kernel
theorem dX12_readUnit_38 : decode cX12_readUnit 38 = .ok (.putfield 144, 3) := by decide +kernel
theorem dX12_readUnit_41 : decode cX12_readUnit 41 = .ok (.goto 114, 3) := by decide +kernel
theorem dX12_readUnit_44 : decode cX12_readUnit 44 = .ok (.aload_n 0, 1) := by decide +kernel
theorem dX12_readUnit_45 : decode cX12_readUnit 45 = .ok (.bipush 91, 2) := by decide +kernel
theorem dX12_readUnit_47 : decode cX12_readUnit 47 = .ok (.invokevirtual 165, 3) := by decide +kernel
theorem dX12_readUnit_50 : decode cX12_readUnit 50 = .ok (.ifCond .eq 30, 3) := by decide +kernel
theorem dX12_readUnit_53 : decode cX12_readUnit 53 = .ok (.aload_n 0, 1) := by decide +kernel
theorem dX12_readUnit_54 : decode cX12_readUnit 54 = .ok (.invokevirtual 162, 3) := by decide +kernel
theorem dX12_readUnit_57 : decode cX12_readUnit 57 = .ok (.aload_n 0, 1) := by decide +kernel
theorem dX12_readUnit_58 : decode cX12_readUnit 58 = .ok (.invokevirtual 168, 3) := by decide +kernel
theorem dX12_readUnit_61 : decode cX12_readUnit 61 = .ok (.aload_n 0, 1) := by decide +kernel
theorem dX12_readUnit_62 : decode cX12_readUnit 62 = .ok (.bipush 93, 2) := by decide +kernel
theorem dX12_readUnit_64 : decode cX12_readUnit 64 = .ok (.invokevirtual 141, 3) := by decide +kernel
theorem dX12_readUnit_67 : decode cX12_readUnit 67 = .ok (.aload_n 0, 1) := by decide +kernel
theorem dX12_readUnit_68 : decode cX12_readUnit 68 = .ok (.dup, 1) := by decide +kernel
theorem dX12_readUnit_69 : decode cX12_readUnit 69 = .ok (.getfield 144, 3) := by decide +kernel
theorem dX12_readUnit_72 : decode cX12_readUnit 72 = .ok (.iconst 1, 1) := by decide +kernel
theorem dX12_readUnit_73 : decode cX12_readUnit 73 = .ok (.isub, 1) := by decide +kernel
theorem dX12_readUnit_74 : decode cX12_readUnit 74 = .ok (.putfield 144, 3) := by decide +kernel
theorem dX12_readUnit_77 : decode cX12_readUnit 77 = .ok (.goto 78, 3) := by decide +kernel
theorem dX12_readUnit_80 : decode cX12_readUnit 80 = .ok (.aload_n 0, 1) := by decide +kernel
theorem dX12_readUnit_81 : decode cX12_readUnit 81 = .ok (.invokevirtual 171, 3) := by decide +kernel
theorem dX12_readUnit_84 : decode cX12_readUnit 84 = .ok (.aload_n 0, 1) := by decide +kernel
theorem dX12_readUnit_85 : decode cX12_readUnit 85 = .ok (.getfield 82, 3) := by decide +kernel
theorem dX12_readUnit_88 : decode cX12_readUnit 88 = .ok (.istore_n 1, 1) := by decide +kernel
theorem dX12_readUnit_89 : decode cX12_readUnit 89 = .ok (.iload_n 1, 1) := by decide +kernel
theorem dX12_readUnit_90 : decode cX12_readUnit 90 = .ok (.bipush 61, 2) := by decide +kernel
theorem dX12_readUnit_92 : decode cX12_readUnit 92 = .ok (.if_icmp .eq 20, 3) := by decide +kernel
theorem dX12_readUnit_95 : decode cX12_readUnit 95 = .ok (.iload_n 1, 1) := by decide +kernel
theorem dX12_readUnit_96 : decode cX12_readUnit 96 = .ok (.bipush 60, 2) := by decide +kernel
theorem dX12_readUnit_98 : decode cX12_readUnit 98 = .ok (.if_icmp .eq 14, 3) := by decide +kernel
theorem dX12_readUnit_101 : decode cX12_readUnit 101 = .ok (.iload_n 1, 1) := by decide +kernel
theorem dX12_readUnit_102 : decode cX12_readUnit 102 = .ok (.bipush 62, 2) := by decide +kernel
theorem dX12_readUnit_104 : decode cX12_readUnit 104 = .ok (.if_icmp .eq 8, 3) := by decide +kernel
theorem dX12_readUnit_107 : decode cX12_readUnit 107 = .ok (.aload_n 0, 1) := by decide +kernel
theorem dX12_readUnit_108 : decode cX12_readUnit 108 = .ok (.iconst 2, 1) := by decide +kernel
theorem dX12_readUnit_109 : decode cX12_readUnit 109 = .ok (.invokevirtual 124, 3) := by decide +kernel
theorem dX12_readUnit_112 : decode cX12_readUnit 112 = .ok (.aload_n 0, 1) := by decide +kernel
theorem dX12_readUnit_113 : decode cX12_readUnit 113 = .ok (.getfield 102, 3) := by decide +kernel
theorem dX12_readUnit_116 : decode cX12_readUnit 116 = .ok (.ifCond .ne 7, 3) := by decide +kernel
theorem dX12_readUnit_119 : decode cX12_readUnit 119 = .ok (.aload_n 0, 1) := by decide +kernel
theorem dX12_readUnit_120 : decode cX12_readUnit 120 = .ok (.invokevirtual 121, 3) := by decide +kernel
theorem dX12_readUnit_123 : decode cX12_readUnit 123 = .ok (.aload_n 0, 1) := by decide +kernel
theorem dX12_readUnit_124 : decode cX12_readUnit 124 = .ok (.invokevirtual 171, 3) := by decide +kernel
theorem dX12_readUnit_127 : decode cX12_readUnit 127 = .ok (.aload_n 0, 1) := by decide +kernel
theorem dX12_readUnit_128 : decode cX12_readUnit 128 = .ok (.iload_n 1, 1) := by decide +kernel
theorem dX12_readUnit_129 : decode cX12_readUnit 129 = .ok (.bipush 61, 2) := by decide +kernel
theorem dX12_readUnit_131 : decode cX12_readUnit 131 = .ok (.if_icmp .ne 8, 3) := by decide +kernel
theorem dX12_readUnit_134 : decode cX12_readUnit 134 = .ok (.bipush 13, 2) := by decide +kernel
theorem dX12_readUnit_136 : decode cX12_readUnit 136 = .ok (.goto 16, 3) := by decide +kernel
theorem dX12_readUnit_139 : decode cX12_readUnit 139 = .ok (.iload_n 1, 1) := by decide +kernel
theorem dX12_readUnit_140 : decode cX12_readUnit 140 = .ok (.bipush 60, 2) := by decide +kernel
theorem dX12_readUnit_142 : decode cX12_readUnit 142 = .ok (.if_icmp .ne 8, 3) := by decide +kernel
theorem dX12_readUnit_145 : decode cX12_readUnit 145 = .ok (.bipush 14, 2) := by decide +kernel
theorem dX12_readUnit_147 : decode cX12_readUnit 147 = .ok (.goto 5, 3) := by decide +kernel
theorem dX12_readUnit_150 : decode cX12_readUnit 150 = .ok (.bipush 15, 2) := by decide +kernel
theorem dX12_readUnit_152 : decode cX12_readUnit 152 = .ok (.invokevirtual 152, 3) := by decide +kernel
theorem dX12_readUnit_155 : decode cX12_readUnit 155 = .ok (.return_, 1) := by decide +kernel
theorem dX12_readSum_0 : decode cX12_readSum 0 = .ok (.aload_n 0, 1) := by decide +kernel
theorem dX12_readSum_1 : decode cX12_readSum 1 = .ok (.invokevirtual 174, 3) := by decide +kernel
theorem dX12_readSum_4 : decode cX12_readSum 4 = .ok (.aload_n 0, 1) := by decide +kernel
theorem dX12_readSum_5 : decode cX12_readSum 5 = .ok (.bipush 43, 2) := by decide +kernel
theorem dX12_readSum_7 : decode cX12_readSum 7 = .ok (.invokevirtual 165, 3) := by decide +kernel
theorem dX12_readSum_10 : decode cX12_readSum 10 = .ok (.ifCond .ne 12, 3) := by decide +kernel
theorem dX12_readSum_13 : decode cX12_readSum 13 = .ok (.aload_n 0, 1) := by decide +kernel
theorem dX12_readSum_14 : decode cX12_readSum 14 = .ok (.bipush 45, 2) := by decide +kernel
theorem dX12_readSum_16 : decode cX12_readSum 16 = .ok (.invokevirtual 165, 3) := by decide +kernel
theorem dX12_readSum_19 : decode cX12_readSum 19 = .ok (.ifCond .eq 36, 3) := by decide +kernel
theorem dX12_readSum_22 : decode cX12_readSum 22 = .ok (.aload_n 0, 1) := by decide +kernel
theorem dX12_readSum_23 : decode cX12_readSum 23 = .ok (.getfield 82, 3) := by decide +kernel
theorem dX12_readSum_26 : decode cX12_readSum 26 = .ok (.istore_n 1, 1) := by decide +kernel
theorem dX12_readSum_27 : decode cX12_readSum 27 = .ok (.aload_n 0, 1) := by decide +kernel
theorem dX12_readSum_28 : decode cX12_readSum 28 = .ok (.invokevirtual 121, 3) := by decide +kernel
theorem dX12_readSum_31 : decode cX12_readSum 31 = .ok (.aload_n 0, 1) := by decide +kernel
theorem dX12_readSum_32 : decode cX12_readSum 32 = .ok (.invokevirtual 174, 3) := by decide +kernel
theorem dX12_readSum_35 : decode cX12_readSum 35 = .ok (.aload_n 0, 1) := by decide +kernel
theorem dX12_readSum_36 : decode cX12_readSum 36 = .ok (.iload_n 1, 1) := by decide +kernel
theorem dX12_readSum_37 : decode cX12_readSum 37 = .ok (.bipush 43, 2) := by decide +kernel
theorem dX12_readSum_39 : decode cX12_readSum 39 = .ok (.if_icmp .ne 8, 3) := by decide +kernel
theorem dX12_readSum_42 : decode cX12_readSum 42 = .ok (.bipush 10, 2) := by decide +kernel
theorem dX12_readSum_44 : decode cX12_readSum 44 = .ok (.goto 5, 3) := by decide +kernel
theorem dX12_readSum_47 : decode cX12_readSum 47 = .ok (.bipush 11, 2) := by decide +kernel
theorem dX12_readSum_49 : decode cX12_readSum 49 = .ok (.invokevirtual 152, 3) := by decide +kernel
theorem dX12_readSum_52 : decode cX12_readSum 52 = .ok (.goto (-48), 3) := by decide +kernel
theorem dX12_readSum_55 : decode cX12_readSum 55 = .ok (.return_, 1) := by decide +kernel
theorem dX12_readTerm_0 : decode cX12_readTerm 0 = .ok (.aload_n 0, 1) := by decide +kernel
theorem dX12_readTerm_1 : decode cX12_readTerm 1 = .ok (.invokevirtual 177, 3) := by decide +kernel
theorem dX12_readTerm_4 : decode cX12_readTerm 4 = .ok (.aload_n 0, 1) := by decide +kernel
theorem dX12_readTerm_5 : decode cX12_readTerm 5 = .ok (.bipush 42, 2) := by decide +kernel
theorem dX12_readTerm_7 : decode cX12_readTerm 7 = .ok (.invokevirtual 165, 3) := by decide +kernel
theorem dX12_readTerm_10 : decode cX12_readTerm 10 = .ok (.ifCond .eq 20, 3) := by decide +kernel
theorem dX12_readTerm_13 : decode cX12_readTerm 13 = .ok (.aload_n 0, 1) := by decide +kernel
theorem dX12_readTerm_14 : decode cX12_readTerm 14 = .ok (.invokevirtual 121, 3) := by decide +kernel
theorem dX12_readTerm_17 : decode cX12_readTerm 17 = .ok (.aload_n 0, 1) := by decide +kernel
theorem dX12_readTerm_18 : decode cX12_readTerm 18 = .ok (.invokevirtual 177, 3) := by decide +kernel
theorem dX12_readTerm_21 : decode cX12_readTerm 21 = .ok (.aload_n 0, 1) := by decide +kernel
theorem dX12_readTerm_22 : decode cX12_readTerm 22 = .ok (.bipush 12, 2) := by decide +kernel
theorem dX12_readTerm_24 : decode cX12_readTerm 24 = .ok (.invokevirtual 152, 3) := by decide +kernel
theorem dX12_readTerm_27 : decode cX12_readTerm 27 = .ok (.goto (-23), 3) := by decide +kernel
theorem dX12_readTerm_30 : decode cX12_readTerm 30 = .ok (.return_, 1) := by decide +kernel
theorem dX12_lawWord_0 : decode cX12_lawWord 0 = .ok (.aload_n 0, 1) := by decide +kernel
theorem dX12_lawWord_1 : decode cX12_lawWord 1 = .ok (.ldc 180, 2) := by decide +kernel
theorem dX12_lawWord_3 : decode cX12_lawWord 3 = .ok (.invokevirtual 132, 3) := by decide +kernel
theorem dX12_lawWord_6 : decode cX12_lawWord 6 = .ok (.ifCond .eq 5, 3) := by decide +kernel
theorem dX12_lawWord_9 : decode cX12_lawWord 9 = .ok (.iconst 0, 1) := by decide +kernel
theorem dX12_lawWord_10 : decode cX12_lawWord 10 = .ok (.ireturn, 1) := by decide +kernel
theorem dX12_lawWord_11 : decode cX12_lawWord 11 = .ok (.aload_n 0, 1) := by decide +kernel
theorem dX12_lawWord_12 : decode cX12_lawWord 12 = .ok (.ldc 182, 2) := by decide +kernel
theorem dX12_lawWord_14 : decode cX12_lawWord 14 = .ok (.invokevirtual 132, 3) := by decide +kernel
theorem dX12_lawWord_17 : decode cX12_lawWord 17 = .ok (.ifCond .eq 5, 3) := by decide +kernel
theorem dX12_lawWord_20 : decode cX12_lawWord 20 = .ok (.iconst 1, 1) := by decide +kernel
theorem dX12_lawWord_21 : decode cX12_lawWord 21 = .ok (.ireturn, 1) := by decide +kernel
theorem dX12_lawWord_22 : decode cX12_lawWord 22 = .ok (.aload_n 0, 1) := by decide +kernel
theorem dX12_lawWord_23 : decode cX12_lawWord 23 = .ok (.ldc 184, 2) := by decide +kernel
theorem dX12_lawWord_25 : decode cX12_lawWord 25 = .ok (.invokevirtual 132, 3) := by decide +kernel
theorem dX12_lawWord_28 : decode cX12_lawWord 28 = .ok (.ifCond .eq 5, 3) := by decide +kernel
theorem dX12_lawWord_31 : decode cX12_lawWord 31 = .ok (.iconst 2, 1) := by decide +kernel
theorem dX12_lawWord_32 : decode cX12_lawWord 32 = .ok (.ireturn, 1) := by decide +kernel
theorem dX12_lawWord_33 : decode cX12_lawWord 33 = .ok (.aload_n 0, 1) := by decide +kernel
theorem dX12_lawWord_34 : decode cX12_lawWord 34 = .ok (.getfield 138, 3) := by decide +kernel
theorem dX12_lawWord_37 : decode cX12_lawWord 37 = .ok (.iconst 5, 1) := by decide +kernel
theorem dX12_lawWord_38 : decode cX12_lawWord 38 = .ok (.if_icmp .eq 14, 3) := by decide +kernel
theorem dX12_lawWord_41 : decode cX12_lawWord 41 = .ok (.aload_n 0, 1) := by decide +kernel
theorem dX12_lawWord_42 : decode cX12_lawWord 42 = .ok (.ldc 186, 2) := by decide +kernel
theorem dX12_lawWord_44 : decode cX12_lawWord 44 = .ok (.invokevirtual 132, 3) := by decide +kernel
theorem dX12_lawWord_47 : decode cX12_lawWord 47 = .ok (.ifCond .eq 5, 3) := by decide +kernel
theorem dX12_lawWord_50 : decode cX12_lawWord 50 = .ok (.iconst 3, 1) := by decide +kernel
theorem dX12_lawWord_51 : decode cX12_lawWord 51 = .ok (.ireturn, 1) := by decide +kernel
theorem dX12_lawWord_52 : decode cX12_lawWord 52 = .ok (.aload_n 0, 1) := by decide +kernel
theorem dX12_lawWord_53 : decode cX12_lawWord 53 = .ok (.getfield 138, 3) := by decide +kernel
theorem dX12_lawWord_56 : decode cX12_lawWord 56 = .ok (.bipush 6, 2) := by decide +kernel
theorem dX12_lawWord_58 : decode cX12_lawWord 58 = .ok (.if_icmp .ne 18, 3) := by decide +kernel
theorem dX12_lawWord_61 : decode cX12_lawWord 61 = .ok (.aload_n 0, 1) := by decide +kernel
theorem dX12_lawWord_62 : decode cX12_lawWord 62 = .ok (.ldc 188, 2) := by decide +kernel
theorem dX12_lawWord_64 : decode cX12_lawWord 64 = .ok (.invokevirtual 132, 3) := by decide +kernel
theorem dX12_lawWord_67 : decode cX12_lawWord 67 = .ok (.ifCond .eq 7, 3) := by decide +kernel
theorem dX12_lawWord_70 : decode cX12_lawWord 70 = .ok (.iconst 4, 1) := by decide +kernel
theorem dX12_lawWord_71 : decode cX12_lawWord 71 = .ok (.goto 4, 3) := by decide +kernel
theorem dX12_lawWord_74 : decode cX12_lawWord 74 = .ok (.iconst (-1), 1) := by decide +kernel
theorem dX12_lawWord_75 : decode cX12_lawWord 75 = .ok (.ireturn, 1) := by decide +kernel
theorem dX12_lawWord_76 : decode cX12_lawWord 76 = .ok (.aload_n 0, 1) := by decide +kernel
theorem dX12_lawWord_77 : decode cX12_lawWord 77 = .ok (.getfield 138, 3) := by decide +kernel
theorem dX12_lawWord_80 : decode cX12_lawWord 80 = .ok (.iconst 4, 1) := by decide +kernel
theorem dX12_lawWord_81 : decode cX12_lawWord 81 = .ok (.if_icmp .ne 14, 3) := by decide +kernel
theorem dX12_lawWord_84 : decode cX12_lawWord 84 = .ok (.aload_n 0, 1) := by decide +kernel
theorem dX12_lawWord_85 : decode cX12_lawWord 85 = .ok (.ldc 190, 2) := by decide +kernel
theorem dX12_lawWord_87 : decode cX12_lawWord 87 = .ok (.invokevirtual 132, 3) := by decide +kernel
theorem dX12_lawWord_90 : decode cX12_lawWord 90 = .ok (.ifCond .eq 5, 3) := by decide +kernel
theorem dX12_lawWord_93 : decode cX12_lawWord 93 = .ok (.iconst 4, 1) := by decide +kernel
theorem dX12_lawWord_94 : decode cX12_lawWord 94 = .ok (.ireturn, 1) := by decide +kernel
theorem dX12_lawWord_95 : decode cX12_lawWord 95 = .ok (.aload_n 0, 1) := by decide +kernel
theorem dX12_lawWord_96 : decode cX12_lawWord 96 = .ok (.getfield 138, 3) := by decide +kernel
theorem dX12_lawWord_99 : decode cX12_lawWord 99 = .ok (.iconst 4, 1) := by decide +kernel
theorem dX12_lawWord_100 : decode cX12_lawWord 100 = .ok (.if_icmp .ne 16, 3) := by decide +kernel
theorem dX12_lawWord_103 : decode cX12_lawWord 103 = .ok (.aload_n 0, 1) := by decide +kernel
theorem dX12_lawWord_104 : decode cX12_lawWord 104 = .ok (.ldc 192, 2) := by decide +kernel
theorem dX12_lawWord_106 : decode cX12_lawWord 106 = .ok (.invokevirtual 132, 3) := by decide +kernel
theorem dX12_lawWord_109 : decode cX12_lawWord 109 = .ok (.ifCond .eq 7, 3) := by decide +kernel
theorem dX12_lawWord_112 : decode cX12_lawWord 112 = .ok (.iconst 5, 1) := by decide +kernel
theorem dX12_lawWord_113 : decode cX12_lawWord 113 = .ok (.goto 4, 3) := by decide +kernel
theorem dX12_lawWord_116 : decode cX12_lawWord 116 = .ok (.iconst (-1), 1) := by decide +kernel
theorem dX12_lawWord_117 : decode cX12_lawWord 117 = .ok (.ireturn, 1) := by decide +kernel
theorem dX12_readAtom_0 : decode cX12_readAtom 0 = .ok (.aload_n 0, 1) := by decide +kernel
theorem dX12_readAtom_1 : decode cX12_readAtom 1 = .ok (.getfield 102, 3) := by decide +kernel
theorem dX12_readAtom_4 : decode cX12_readAtom 4 = .ok (.ifCond .eq 4, 3) := by decide +kernel
theorem dX12_readAtom_7 : decode cX12_readAtom 7 = .ok (.return_, 1) := by decide +kernel
theorem dX12_readAtom_8 : decode cX12_readAtom 8 = .ok (.aload_n 0, 1) := by decide +kernel
theorem dX12_readAtom_9 : decode cX12_readAtom 9 = .ok (.invokevirtual 194, 3) := by decide +kernel
theorem dX12_readAtom_12 : decode cX12_readAtom 12 = .ok (.istore_n 1, 1) := by decide +kernel
theorem dX12_readAtom_13 : decode cX12_readAtom 13 = .ok (.iload_n 1, 1) := by decide +kernel
theorem dX12_readAtom_14 : decode cX12_readAtom 14 = .ok (.iconst (-1), 1) := by decide +kernel
theorem dX12_readAtom_15 : decode cX12_readAtom 15 = .ok (.if_icmp .eq 14, 3) := by decide +kernel
theorem dX12_readAtom_18 : decode cX12_readAtom 18 = .ok (.aload_n 0, 1) := by decide +kernel
theorem dX12_readAtom_19 : decode cX12_readAtom 19 = .ok (.bipush 100, 2) := by decide +kernel
theorem dX12_readAtom_21 : decode cX12_readAtom 21 = .ok (.iload_n 1, 1) := by decide +kernel
theorem dX12_readAtom_22 : decode cX12_readAtom 22 = .ok (.iadd, 1) := by decide +kernel
theorem dX12_readAtom_23 : decode cX12_readAtom 23 = .ok (.invokevirtual 152, 3) := by decide +kernel
theorem dX12_readAtom_26 : decode cX12_readAtom 26 = .ok (.goto 57, 3) := by decide +kernel
theorem dX12_readAtom_29 : decode cX12_readAtom 29 = .ok (.aload_n 0, 1) := by decide +kernel
theorem dX12_readAtom_30 : decode cX12_readAtom 30 = .ok (.bipush 40, 2) := by decide +kernel
theorem dX12_readAtom_32 : decode cX12_readAtom 32 = .ok (.invokevirtual 165, 3) := by decide +kernel
theorem dX12_readAtom_35 : decode cX12_readAtom 35 = .ok (.ifCond .eq 30, 3) := by decide +kernel
theorem dX12_readAtom_38 : decode cX12_readAtom 38 = .ok (.aload_n 0, 1) := by decide +kernel
theorem dX12_readAtom_39 : decode cX12_readAtom 39 = .ok (.invokevirtual 162, 3) := by decide +kernel
theorem dX12_readAtom_42 : decode cX12_readAtom 42 = .ok (.aload_n 0, 1) := by decide +kernel
theorem dX12_readAtom_43 : decode cX12_readAtom 43 = .ok (.invokevirtual 171, 3) := by decide +kernel
theorem dX12_readAtom_46 : decode cX12_readAtom 46 = .ok (.aload_n 0, 1) := by decide +kernel
theorem dX12_readAtom_47 : decode cX12_readAtom 47 = .ok (.bipush 41, 2) := by decide +kernel
theorem dX12_readAtom_49 : decode cX12_readAtom 49 = .ok (.invokevirtual 141, 3) := by decide +kernel
theorem dX12_readAtom_52 : decode cX12_readAtom 52 = .ok (.aload_n 0, 1) := by decide +kernel
theorem dX12_readAtom_53 : decode cX12_readAtom 53 = .ok (.dup, 1) := by decide +kernel
theorem dX12_readAtom_54 : decode cX12_readAtom 54 = .ok (.getfield 144, 3) := by decide +kernel
theorem dX12_readAtom_57 : decode cX12_readAtom 57 = .ok (.iconst 1, 1) := by decide +kernel
theorem dX12_readAtom_58 : decode cX12_readAtom 58 = .ok (.isub, 1) := by decide +kernel
theorem dX12_readAtom_59 : decode cX12_readAtom 59 = .ok (.putfield 144, 3) := by decide +kernel
theorem dX12_readAtom_62 : decode cX12_readAtom 62 = .ok (.goto 21, 3) := by decide +kernel
theorem dX12_readAtom_65 : decode cX12_readAtom 65 = .ok (.aload_n 0, 1) := by decide +kernel
theorem dX12_readAtom_66 : decode cX12_readAtom 66 = .ok (.iconst 0, 1) := by decide +kernel
theorem dX12_readAtom_67 : decode cX12_readAtom 67 = .ok (.sipush 999, 3) := by decide +kernel
theorem dX12_readAtom_70 : decode cX12_readAtom 70 = .ok (.invokevirtual 197, 3) := by decide +kernel
theorem dX12_readAtom_73 : decode cX12_readAtom 73 = .ok (.istore_n 2, 1) := by decide +kernel
theorem dX12_readAtom_74 : decode cX12_readAtom 74 = .ok (.aload_n 0, 1) := by decide +kernel
theorem dX12_readAtom_75 : decode cX12_readAtom 75 = .ok (.sipush 1000, 3) := by decide +kernel
theorem dX12_readAtom_78 : decode cX12_readAtom 78 = .ok (.iload_n 2, 1) := by decide +kernel
theorem dX12_readAtom_79 : decode cX12_readAtom 79 = .ok (.iadd, 1) := by decide +kernel
theorem dX12_readAtom_80 : decode cX12_readAtom 80 = .ok (.invokevirtual 152, 3) := by decide +kernel
theorem dX12_readAtom_83 : decode cX12_readAtom 83 = .ok (.return_, 1) := by decide +kernel
theorem dX12_readHouse_0 : decode cX12_readHouse 0 = .ok (.aload_n 0, 1) := by decide +kernel
theorem dX12_readHouse_1 : decode cX12_readHouse 1 = .ok (.getfield 13, 3) := by decide +kernel
theorem dX12_readHouse_4 : decode cX12_readHouse 4 = .ok (.iconst 1, 1) := by decide +kernel
theorem dX12_readHouse_5 : decode cX12_readHouse 5 = .ok (.iaload, 1) := by decide +kernel
theorem dX12_readHouse_6 : decode cX12_readHouse 6 = .ok (.bipush 7, 2) := by decide +kernel
theorem dX12_readHouse_8 : decode cX12_readHouse 8 = .ok (.if_icmp .ne 8, 3) := by decide +kernel
theorem dX12_readHouse_11 : decode cX12_readHouse 11 = .ok (.aload_n 0, 1) := by decide +kernel
theorem dX12_readHouse_12 : decode cX12_readHouse 12 = .ok (.iconst 4, 1) := by decide +kernel
theorem dX12_readHouse_13 : decode cX12_readHouse 13 = .ok (.invokevirtual 124, 3) := by decide +kernel
theorem dX12_readHouse_16 : decode cX12_readHouse 16 = .ok (.aload_n 0, 1) := by decide +kernel
theorem dX12_readHouse_17 : decode cX12_readHouse 17 = .ok (.getfield 102, 3) := by decide +kernel
theorem dX12_readHouse_20 : decode cX12_readHouse 20 = .ok (.ifCond .ne 7, 3) := by decide +kernel
theorem dX12_readHouse_23 : decode cX12_readHouse 23 = .ok (.aload_n 0, 1) := by decide +kernel
theorem dX12_readHouse_24 : decode cX12_readHouse 24 = .ok (.invokevirtual 121, 3) := by decide +kernel
theorem dX12_readHouse_27 : decode cX12_readHouse 27 = .ok (.bipush 6, 2) := by decide +kernel
theorem dX12_readHouse_29 : decode cX12_readHouse 29 = .ok (.aload_n 0, 1) := by decide +kernel
theorem dX12_readHouse_30 : decode cX12_readHouse 30 = .ok (.getfield 13, 3) := by decide +kernel
theorem dX12_readHouse_33 : decode cX12_readHouse 33 = .ok (.iconst 1, 1) := by decide +kernel
theorem dX12_readHouse_34 : decode cX12_readHouse 34 = .ok (.iaload, 1) := by decide +kernel
theorem dX12_readHouse_35 : decode cX12_readHouse 35 = .ok (.invokestatic 201, 3) := by decide +kernel
theorem dX12_readHouse_38 : decode cX12_readHouse 38 = .ok (.istore_n 1, 1) := by decide +kernel
theorem dX12_readHouse_39 : decode cX12_readHouse 39 = .ok (.aload_n 0, 1) := by decide +kernel
theorem dX12_readHouse_40 : decode cX12_readHouse 40 = .ok (.iconst 0, 1) := by decide +kernel
theorem dX12_readHouse_41 : decode cX12_readHouse 41 = .ok (.bipush 99, 2) := by decide +kernel
theorem dX12_readHouse_43 : decode cX12_readHouse 43 = .ok (.invokevirtual 197, 3) := by decide +kernel
theorem dX12_readHouse_46 : decode cX12_readHouse 46 = .ok (.istore_n 2, 1) := by decide +kernel
theorem dX12_readHouse_47 : decode cX12_readHouse 47 = .ok (.aload_n 0, 1) := by decide +kernel
theorem dX12_readHouse_48 : decode cX12_readHouse 48 = .ok (.ldc 192, 2) := by decide +kernel
theorem dX12_readHouse_50 : decode cX12_readHouse 50 = .ok (.invokevirtual 206, 3) := by decide +kernel
theorem dX12_readHouse_53 : decode cX12_readHouse 53 = .ok (.aload_n 0, 1) := by decide +kernel
theorem dX12_readHouse_54 : decode cX12_readHouse 54 = .ok (.iconst 0, 1) := by decide +kernel
theorem dX12_readHouse_55 : decode cX12_readHouse 55 = .ok (.bipush 99, 2) := by decide +kernel
theorem dX12_readHouse_57 : decode cX12_readHouse 57 = .ok (.invokevirtual 197, 3) := by decide +kernel
theorem dX12_readHouse_60 : decode cX12_readHouse 60 = .ok (.istore_n 3, 1) := by decide +kernel
theorem dX12_readHouse_61 : decode cX12_readHouse 61 = .ok (.iconst 0, 1) := by decide +kernel
theorem dX12_readHouse_62 : decode cX12_readHouse 62 = .ok (.istore 4, 2) := by decide +kernel
theorem dX12_readHouse_64 : decode cX12_readHouse 64 = .ok (.iconst 0, 1) := by decide +kernel
theorem dX12_readHouse_65 : decode cX12_readHouse 65 = .ok (.istore 5, 2) := by decide +kernel
theorem dX12_readHouse_67 : decode cX12_readHouse 67 = .ok (.iconst 0, 1) := by decide +kernel
theorem dX12_readHouse_68 : decode cX12_readHouse 68 = .ok (.istore 6, 2) := by decide +kernel
theorem dX12_readHouse_70 : decode cX12_readHouse 70 = .ok (.iconst 0, 1) := by decide +kernel
theorem dX12_readHouse_71 : decode cX12_readHouse 71 = .ok (.istore 7, 2) := by decide +kernel
theorem dX12_readHouse_73 : decode cX12_readHouse 73 = .ok (.iconst 1, 1) := by decide +kernel
theorem dX12_readHouse_74 : decode cX12_readHouse 74 = .ok (.istore 8, 2) := by decide +kernel
theorem dX12_readHouse_76 : decode cX12_readHouse 76 = .ok (.aload_n 0, 1) := by decide +kernel
theorem dX12_readHouse_77 : decode cX12_readHouse 77 = .ok (.getfield 102, 3) := by decide +kernel
theorem dX12_readHouse_80 : decode cX12_readHouse 80 = .ok (.ifCond .ne 94, 3) := by decide +kernel
theorem dX12_readHouse_83 : decode cX12_readHouse 83 = .ok (.iload 8, 2) := by decide +kernel
theorem dX12_readHouse_85 : decode cX12_readHouse 85 = .ok (.ifCond .eq 89, 3) := by decide +kernel
theorem dX12_readHouse_88 : decode cX12_readHouse 88 = .ok (.aload_n 0, 1) := by decide +kernel
theorem dX12_readHouse_89 : decode cX12_readHouse 89 = .ok (.ldc 186, 2) := by decide +kernel
theorem dX12_readHouse_91 : decode cX12_readHouse 91 = .ok (.invokevirtual 132, 3) := by decide +kernel
theorem dX12_readHouse_94 : decode cX12_readHouse 94 = .ok (.ifCond .eq 16, 3) := by decide +kernel
theorem dX12_readHouse_97 : decode cX12_readHouse 97 = .ok (.aload_n 0, 1) := by decide +kernel
theorem dX12_readHouse_98 : decode cX12_readHouse 98 = .ok (.iconst 0, 1) := by decide +kernel
theorem dX12_readHouse_99 : decode cX12_readHouse 99 = .ok (.sipush 999, 3) := by decide +kernel
theorem dX12_readHouse_102 : decode cX12_readHouse 102 = .ok (.invokevirtual 197, 3) := by decide +kernel
theorem dX12_readHouse_105 : decode cX12_readHouse 105 = .ok (.istore 4, 2) := by decide +kernel
theorem dX12_readHouse_107 : decode cX12_readHouse 107 = .ok (.goto (-31), 3) := by decide +kernel
theorem dX12_readHouse_110 : decode cX12_readHouse 110 = .ok (.aload_n 0, 1) := by decide +kernel
theorem dX12_readHouse_111 : decode cX12_readHouse 111 = .ok (.ldc 210, 2) := by decide +kernel
theorem dX12_readHouse_113 : decode cX12_readHouse 113 = .ok (.invokevirtual 132, 3) := by decide +kernel
theorem dX12_readHouse_116 : decode cX12_readHouse 116 = .ok (.ifCond .eq 16, 3) := by decide +kernel
theorem dX12_readHouse_119 : decode cX12_readHouse 119 = .ok (.aload_n 0, 1) := by decide +kernel
theorem dX12_readHouse_120 : decode cX12_readHouse 120 = .ok (.iconst 0, 1) := by decide +kernel
theorem dX12_readHouse_121 : decode cX12_readHouse 121 = .ok (.sipush 999, 3) := by decide +kernel
theorem dX12_readHouse_124 : decode cX12_readHouse 124 = .ok (.invokevirtual 197, 3) := by decide +kernel
theorem dX12_readHouse_127 : decode cX12_readHouse 127 = .ok (.istore 5, 2) := by decide +kernel
theorem dX12_readHouse_129 : decode cX12_readHouse 129 = .ok (.goto (-53), 3) := by decide +kernel
theorem dX12_readHouse_132 : decode cX12_readHouse 132 = .ok (.aload_n 0, 1) := by decide +kernel
theorem dX12_readHouse_133 : decode cX12_readHouse 133 = .ok (.ldc 212, 2) := by decide +kernel
theorem dX12_readHouse_135 : decode cX12_readHouse 135 = .ok (.invokevirtual 132, 3) := by decide +kernel
theorem dX12_readHouse_138 : decode cX12_readHouse 138 = .ok (.ifCond .eq 15, 3) := by decide +kernel
theorem dX12_readHouse_141 : decode cX12_readHouse 141 = .ok (.aload_n 0, 1) := by decide +kernel
theorem dX12_readHouse_142 : decode cX12_readHouse 142 = .ok (.iconst 0, 1) := by decide +kernel
theorem dX12_readHouse_143 : decode cX12_readHouse 143 = .ok (.bipush 20, 2) := by decide +kernel
theorem dX12_readHouse_145 : decode cX12_readHouse 145 = .ok (.invokevirtual 197, 3) := by decide +kernel
theorem dX12_readHouse_148 : decode cX12_readHouse 148 = .ok (.istore 6, 2) := by decide +kernel
theorem dX12_readHouse_150 : decode cX12_readHouse 150 = .ok (.goto (-74), 3) := by decide +kernel
theorem dX12_readHouse_153 : decode cX12_readHouse 153 = .ok (.aload_n 0, 1) := by decide +kernel
theorem dX12_readHouse_154 : decode cX12_readHouse 154 = .ok (.ldc 214, 2) := by decide +kernel
theorem dX12_readHouse_156 : decode cX12_readHouse 156 = .ok (.invokevirtual 132, 3) := by decide +kernel
theorem dX12_readHouse_159 : decode cX12_readHouse 159 = .ok (.ifCond .eq 9, 3) := by decide +kernel
theorem dX12_readHouse_162 : decode cX12_readHouse 162 = .ok (.iconst 1, 1) := by decide +kernel
theorem dX12_readHouse_163 : decode cX12_readHouse 163 = .ok (.istore 7, 2) := by decide +kernel
theorem dX12_readHouse_165 : decode cX12_readHouse 165 = .ok (.goto (-89), 3) := by decide +kernel
theorem dX12_readHouse_168 : decode cX12_readHouse 168 = .ok (.iconst 0, 1) := by decide +kernel
theorem dX12_readHouse_169 : decode cX12_readHouse 169 = .ok (.istore 8, 2) := by decide +kernel
theorem dX12_readHouse_171 : decode cX12_readHouse 171 = .ok (.goto (-95), 3) := by decide +kernel
theorem dX12_readHouse_174 : decode cX12_readHouse 174 = .ok (.aload_n 0, 1) := by decide +kernel
theorem dX12_readHouse_175 : decode cX12_readHouse 175 = .ok (.getfield 102, 3) := by decide +kernel
theorem dX12_readHouse_178 : decode cX12_readHouse 178 = .ok (.ifCond .eq 4, 3) := by decide +kernel
theorem dX12_readHouse_181 : decode cX12_readHouse 181 = .ok (.return_, 1) := by decide +kernel
theorem dX12_readHouse_182 : decode cX12_readHouse 182 = .ok (.aload_n 0, 1) := by decide +kernel
theorem dX12_readHouse_183 : decode cX12_readHouse 183 = .ok (.getfield 13, 3) := by decide +kernel
theorem dX12_readHouse_186 : decode cX12_readHouse 186 = .ok (.bipush 8, 2) := by decide +kernel
theorem dX12_readHouse_188 : decode cX12_readHouse 188 = .ok (.iload_n 1, 1) := by decide +kernel
theorem dX12_readHouse_189 : decode cX12_readHouse 189 = .ok (.iadd, 1) := by decide +kernel
theorem dX12_readHouse_190 : decode cX12_readHouse 190 = .ok (.iload_n 2, 1) := by decide +kernel
theorem dX12_readHouse_191 : decode cX12_readHouse 191 = .ok (.iastore, 1) := by decide +kernel
theorem dX12_readHouse_192 : decode cX12_readHouse 192 = .ok (.aload_n 0, 1) := by decide +kernel
theorem dX12_readHouse_193 : decode cX12_readHouse 193 = .ok (.getfield 13, 3) := by decide +kernel
theorem dX12_readHouse_196 : decode cX12_readHouse 196 = .ok (.bipush 15, 2) := by decide +kernel
theorem dX12_readHouse_198 : decode cX12_readHouse 198 = .ok (.iload_n 1, 1) := by decide +kernel
theorem dX12_readHouse_199 : decode cX12_readHouse 199 = .ok (.iadd, 1) := by decide +kernel
theorem dX12_readHouse_200 : decode cX12_readHouse 200 = .ok (.iload_n 3, 1) := by decide +kernel
theorem dX12_readHouse_201 : decode cX12_readHouse 201 = .ok (.iastore, 1) := by decide +kernel
theorem dX12_readHouse_202 : decode cX12_readHouse 202 = .ok (.aload_n 0, 1) := by decide +kernel
theorem dX12_readHouse_203 : decode cX12_readHouse 203 = .ok (.getfield 13, 3) := by decide +kernel
theorem dX12_readHouse_206 : decode cX12_readHouse 206 = .ok (.bipush 22, 2) := by decide +kernel
theorem dX12_readHouse_208 : decode cX12_readHouse 208 = .ok (.iload_n 1, 1) := by decide +kernel
theorem dX12_readHouse_209 : decode cX12_readHouse 209 = .ok (.iadd, 1) := by decide +kernel
theorem dX12_readHouse_210 : decode cX12_readHouse 210 = .ok (.iload 7, 2) := by decide +kernel
theorem dX12_readHouse_212 : decode cX12_readHouse 212 = .ok (.iconst 1, 1) := by decide +kernel
theorem dX12_readHouse_213 : decode cX12_readHouse 213 = .ok (.if_icmp .ne 7, 3) := by decide +kernel
theorem dX12_readHouse_216 : decode cX12_readHouse 216 = .ok (.iconst 0, 1) := by decide +kernel
theorem dX12_readHouse_217 : decode cX12_readHouse 217 = .ok (.goto 5, 3) := by decide +kernel
theorem dX12_readHouse_220 : decode cX12_readHouse 220 = .ok (.iload 4, 2) := by decide +kernel
theorem dX12_readHouse_222 : decode cX12_readHouse 222 = .ok (.iastore, 1) := by decide +kernel
theorem dX12_readHouse_223 : decode cX12_readHouse 223 = .ok (.aload_n 0, 1) := by decide +kernel
theorem dX12_readHouse_224 : decode cX12_readHouse 224 = .ok (.getfield 13, 3) := by decide +kernel
theorem dX12_readHouse_227 : decode cX12_readHouse 227 = .ok (.bipush 29, 2) := by decide +kernel
theorem dX12_readHouse_229 : decode cX12_readHouse 229 = .ok (.iload_n 1, 1) := by decide +kernel
theorem dX12_readHouse_230 : decode cX12_readHouse 230 = .ok (.iadd, 1) := by decide +kernel
theorem dX12_readHouse_231 : decode cX12_readHouse 231 = .ok (.iload 7, 2) := by decide +kernel
theorem dX12_readHouse_233 : decode cX12_readHouse 233 = .ok (.iastore, 1) := by decide +kernel
theorem dX12_readHouse_234 : decode cX12_readHouse 234 = .ok (.aload_n 0, 1) := by decide +kernel
theorem dX12_readHouse_235 : decode cX12_readHouse 235 = .ok (.getfield 13, 3) := by decide +kernel
theorem dX12_readHouse_238 : decode cX12_readHouse 238 = .ok (.bipush 36, 2) := by decide +kernel
theorem dX12_readHouse_240 : decode cX12_readHouse 240 = .ok (.iload_n 1, 1) := by decide +kernel
theorem dX12_readHouse_241 : decode cX12_readHouse 241 = .ok (.iadd, 1) := by decide +kernel
theorem dX12_readHouse_242 : decode cX12_readHouse 242 = .ok (.iload 5, 2) := by decide +kernel
theorem dX12_readHouse_244 : decode cX12_readHouse 244 = .ok (.iastore, 1) := by decide +kernel
theorem dX12_readHouse_245 : decode cX12_readHouse 245 = .ok (.aload_n 0, 1) := by decide +kernel
theorem dX12_readHouse_246 : decode cX12_readHouse 246 = .ok (.getfield 13, 3) := by decide +kernel
theorem dX12_readHouse_249 : decode cX12_readHouse 249 = .ok (.bipush 43, 2) := by decide +kernel
theorem dX12_readHouse_251 : decode cX12_readHouse 251 = .ok (.iload_n 1, 1) := by decide +kernel
theorem dX12_readHouse_252 : decode cX12_readHouse 252 = .ok (.iadd, 1) := by decide +kernel
theorem dX12_readHouse_253 : decode cX12_readHouse 253 = .ok (.iload 6, 2) := by decide +kernel
theorem dX12_readHouse_255 : decode cX12_readHouse 255 = .ok (.iastore, 1) := by decide +kernel
theorem dX12_readHouse_256 : decode cX12_readHouse 256 = .ok (.aload_n 0, 1) := by decide +kernel
theorem dX12_readHouse_257 : decode cX12_readHouse 257 = .ok (.getfield 13, 3) := by decide +kernel
theorem dX12_readHouse_260 : decode cX12_readHouse 260 = .ok (.iconst 1, 1) := by decide +kernel
theorem dX12_readHouse_261 : decode cX12_readHouse 261 = .ok (.dup2, 1) := by decide +kernel
theorem dX12_readHouse_262 : decode cX12_readHouse 262 = .ok (.iaload, 1) := by decide +kernel
theorem dX12_readHouse_263 : decode cX12_readHouse 263 = .ok (.iconst 1, 1) := by decide +kernel
theorem dX12_readHouse_264 : decode cX12_readHouse 264 = .ok (.iadd, 1) := by decide +kernel
theorem dX12_readHouse_265 : decode cX12_readHouse 265 = .ok (.iastore, 1) := by decide +kernel
theorem dX12_readHouse_266 : decode cX12_readHouse 266 = .ok (.return_, 1) := by decide +kernel
theorem dX12_readStop_0 : decode cX12_readStop 0 = .ok (.aload_n 0, 1) := by decide +kernel
theorem dX12_readStop_1 : decode cX12_readStop 1 = .ok (.bipush 59, 2) := by decide +kernel
theorem dX12_readStop_3 : decode cX12_readStop 3 = .ok (.invokevirtual 141, 3) := by decide +kernel
theorem dX12_readStop_6 : decode cX12_readStop 6 = .ok (.aload_n 0, 1) := by decide +kernel
theorem dX12_readStop_7 : decode cX12_readStop 7 = .ok (.getfield 102, 3) := by decide +kernel
theorem dX12_readStop_10 : decode cX12_readStop 10 = .ok (.ifCond .ne 13, 3) := by decide +kernel
theorem dX12_readStop_13 : decode cX12_readStop 13 = .ok (.aload_n 0, 1) := by decide +kernel
theorem dX12_readStop_14 : decode cX12_readStop 14 = .ok (.getfield 13, 3) := by decide +kernel
theorem dX12_readStop_17 : decode cX12_readStop 17 = .ok (.iconst 0, 1) := by decide +kernel
theorem dX12_readStop_18 : decode cX12_readStop 18 = .ok (.dup2, 1) := by decide +kernel
theorem dX12_readStop_19 : decode cX12_readStop 19 = .ok (.iaload, 1) := by decide +kernel
theorem dX12_readStop_20 : decode cX12_readStop 20 = .ok (.iconst 1, 1) := by decide +kernel
theorem dX12_readStop_21 : decode cX12_readStop 21 = .ok (.iadd, 1) := by decide +kernel
theorem dX12_readStop_22 : decode cX12_readStop 22 = .ok (.iastore, 1) := by decide +kernel
theorem dX12_readStop_23 : decode cX12_readStop 23 = .ok (.return_, 1) := by decide +kernel
theorem dX12_readLine_0 : decode cX12_readLine 0 = .ok (.aload_n 0, 1) := by decide +kernel
theorem dX12_readLine_1 : decode cX12_readLine 1 = .ok (.ldc 182, 2) := by decide +kernel
theorem dX12_readLine_3 : decode cX12_readLine 3 = .ok (.invokevirtual 117, 3) := by decide +kernel
theorem dX12_readLine_6 : decode cX12_readLine 6 = .ok (.ifCond .eq 10, 3) := by decide +kernel
theorem dX12_readLine_9 : decode cX12_readLine 9 = .ok (.aload_n 0, 1) := by decide +kernel
theorem dX12_readLine_10 : decode cX12_readLine 10 = .ok (.invokevirtual 216, 3) := by decide +kernel
theorem dX12_readLine_13 : decode cX12_readLine 13 = .ok (.goto 134, 3) := by decide +kernel
theorem dX12_readLine_16 : decode cX12_readLine 16 = .ok (.aload_n 0, 1) := by decide +kernel
theorem dX12_readLine_17 : decode cX12_readLine 17 = .ok (.ldc 219, 2) := by decide +kernel
theorem dX12_readLine_19 : decode cX12_readLine 19 = .ok (.invokevirtual 132, 3) := by decide +kernel
theorem dX12_readLine_22 : decode cX12_readLine 22 = .ok (.ifCond .eq 20, 3) := by decide +kernel
theorem dX12_readLine_25 : decode cX12_readLine 25 = .ok (.aload_n 0, 1) := by decide +kernel
theorem dX12_readLine_26 : decode cX12_readLine 26 = .ok (.getfield 13, 3) := by decide +kernel
theorem dX12_readLine_29 : decode cX12_readLine 29 = .ok (.iconst 3, 1) := by decide +kernel
theorem dX12_readLine_30 : decode cX12_readLine 30 = .ok (.aload_n 0, 1) := by decide +kernel
theorem dX12_readLine_31 : decode cX12_readLine 31 = .ok (.iconst 0, 1) := by decide +kernel
theorem dX12_readLine_32 : decode cX12_readLine 32 = .ok (.sipush 999, 3) := by decide +kernel
theorem dX12_readLine_35 : decode cX12_readLine 35 = .ok (.invokevirtual 197, 3) := by decide +kernel
theorem dX12_readLine_38 : decode cX12_readLine 38 = .ok (.iastore, 1) := by decide +kernel
theorem dX12_readLine_39 : decode cX12_readLine 39 = .ok (.goto 108, 3) := by decide +kernel
theorem dX12_readLine_42 : decode cX12_readLine 42 = .ok (.aload_n 0, 1) := by decide +kernel
theorem dX12_readLine_43 : decode cX12_readLine 43 = .ok (.ldc 184, 2) := by decide +kernel
theorem dX12_readLine_45 : decode cX12_readLine 45 = .ok (.invokevirtual 132, 3) := by decide +kernel
theorem dX12_readLine_48 : decode cX12_readLine 48 = .ok (.ifCond .eq 21, 3) := by decide +kernel
theorem dX12_readLine_51 : decode cX12_readLine 51 = .ok (.aload_n 0, 1) := by decide +kernel
theorem dX12_readLine_52 : decode cX12_readLine 52 = .ok (.getfield 13, 3) := by decide +kernel
theorem dX12_readLine_55 : decode cX12_readLine 55 = .ok (.bipush 51, 2) := by decide +kernel
theorem dX12_readLine_57 : decode cX12_readLine 57 = .ok (.aload_n 0, 1) := by decide +kernel
theorem dX12_readLine_58 : decode cX12_readLine 58 = .ok (.iconst 0, 1) := by decide +kernel
theorem dX12_readLine_59 : decode cX12_readLine 59 = .ok (.sipush 999, 3) := by decide +kernel
theorem dX12_readLine_62 : decode cX12_readLine 62 = .ok (.invokevirtual 197, 3) := by decide +kernel
theorem dX12_readLine_65 : decode cX12_readLine 65 = .ok (.iastore, 1) := by decide +kernel
theorem dX12_readLine_66 : decode cX12_readLine 66 = .ok (.goto 81, 3) := by decide +kernel
theorem dX12_readLine_69 : decode cX12_readLine 69 = .ok (.aload_n 0, 1) := by decide +kernel
theorem dX12_readLine_70 : decode cX12_readLine 70 = .ok (.ldc 221, 2) := by decide +kernel
theorem dX12_readLine_72 : decode cX12_readLine 72 = .ok (.invokevirtual 132, 3) := by decide +kernel
theorem dX12_readLine_75 : decode cX12_readLine 75 = .ok (.ifCond .eq 18, 3) := by decide +kernel
theorem dX12_readLine_78 : decode cX12_readLine 78 = .ok (.aload_n 0, 1) := by decide +kernel
theorem dX12_readLine_79 : decode cX12_readLine 79 = .ok (.iconst 4, 1) := by decide +kernel
theorem dX12_readLine_80 : decode cX12_readLine 80 = .ok (.sipush 536, 3) := by decide +kernel
theorem dX12_readLine_83 : decode cX12_readLine 83 = .ok (.invokevirtual 223, 3) := by decide +kernel
theorem dX12_readLine_86 : decode cX12_readLine 86 = .ok (.aload_n 0, 1) := by decide +kernel
theorem dX12_readLine_87 : decode cX12_readLine 87 = .ok (.invokevirtual 171, 3) := by decide +kernel
theorem dX12_readLine_90 : decode cX12_readLine 90 = .ok (.goto 57, 3) := by decide +kernel
theorem dX12_readLine_93 : decode cX12_readLine 93 = .ok (.aload_n 0, 1) := by decide +kernel
theorem dX12_readLine_94 : decode cX12_readLine 94 = .ok (.ldc 227, 2) := by decide +kernel
theorem dX12_readLine_96 : decode cX12_readLine 96 = .ok (.invokevirtual 132, 3) := by decide +kernel
theorem dX12_readLine_99 : decode cX12_readLine 99 = .ok (.ifCond .eq 18, 3) := by decide +kernel
theorem dX12_readLine_102 : decode cX12_readLine 102 = .ok (.aload_n 0, 1) := by decide +kernel
theorem dX12_readLine_103 : decode cX12_readLine 103 = .ok (.iconst 5, 1) := by decide +kernel
theorem dX12_readLine_104 : decode cX12_readLine 104 = .ok (.sipush 1436, 3) := by decide +kernel
theorem dX12_readLine_107 : decode cX12_readLine 107 = .ok (.invokevirtual 223, 3) := by decide +kernel
theorem dX12_readLine_110 : decode cX12_readLine 110 = .ok (.aload_n 0, 1) := by decide +kernel
theorem dX12_readLine_111 : decode cX12_readLine 111 = .ok (.invokevirtual 171, 3) := by decide +kernel
theorem dX12_readLine_114 : decode cX12_readLine 114 = .ok (.goto 33, 3) := by decide +kernel
theorem dX12_readLine_117 : decode cX12_readLine 117 = .ok (.aload_n 0, 1) := by decide +kernel
theorem dX12_readLine_118 : decode cX12_readLine 118 = .ok (.ldc 229, 2) := by decide +kernel
theorem dX12_readLine_120 : decode cX12_readLine 120 = .ok (.invokevirtual 132, 3) := by decide +kernel
theorem dX12_readLine_123 : decode cX12_readLine 123 = .ok (.ifCond .eq 19, 3) := by decide +kernel
theorem dX12_readLine_126 : decode cX12_readLine 126 = .ok (.aload_n 0, 1) := by decide +kernel
theorem dX12_readLine_127 : decode cX12_readLine 127 = .ok (.bipush 6, 2) := by decide +kernel
theorem dX12_readLine_129 : decode cX12_readLine 129 = .ok (.sipush 2336, 3) := by decide +kernel
theorem dX12_readLine_132 : decode cX12_readLine 132 = .ok (.invokevirtual 223, 3) := by decide +kernel
theorem dX12_readLine_135 : decode cX12_readLine 135 = .ok (.aload_n 0, 1) := by decide +kernel
theorem dX12_readLine_136 : decode cX12_readLine 136 = .ok (.invokevirtual 168, 3) := by decide +kernel
theorem dX12_readLine_139 : decode cX12_readLine 139 = .ok (.goto 8, 3) := by decide +kernel
theorem dX12_readLine_142 : decode cX12_readLine 142 = .ok (.aload_n 0, 1) := by decide +kernel
theorem dX12_readLine_143 : decode cX12_readLine 143 = .ok (.iconst 2, 1) := by decide +kernel
theorem dX12_readLine_144 : decode cX12_readLine 144 = .ok (.invokevirtual 124, 3) := by decide +kernel
theorem dX12_readLine_147 : decode cX12_readLine 147 = .ok (.aload_n 0, 1) := by decide +kernel
theorem dX12_readLine_148 : decode cX12_readLine 148 = .ok (.invokevirtual 231, 3) := by decide +kernel
theorem dX12_readLine_151 : decode cX12_readLine 151 = .ok (.return_, 1) := by decide +kernel
theorem dX12_street_0 : decode cX12_street 0 = .ok (.aload_n 0, 1) := by decide +kernel
theorem dX12_street_1 : decode cX12_street 1 = .ok (.iconst 0, 1) := by decide +kernel
theorem dX12_street_2 : decode cX12_street 2 = .ok (.putfield 67, 3) := by decide +kernel
theorem dX12_street_5 : decode cX12_street 5 = .ok (.iload_n 1, 1) := by decide +kernel
theorem dX12_street_6 : decode cX12_street 6 = .ok (.i2l, 1) := by decide +kernel
theorem dX12_street_7 : decode cX12_street 7 = .ok (.lconst 0, 1) := by decide +kernel
theorem dX12_street_8 : decode cX12_street 8 = .ok (.aload_n 0, 1) := by decide +kernel
theorem dX12_street_9 : decode cX12_street 9 = .ok (.getfield 70, 3) := by decide +kernel
theorem dX12_street_12 : decode cX12_street 12 = .ok (.i2l, 1) := by decide +kernel
theorem dX12_street_13 : decode cX12_street 13 = .ok (.invokestatic 128, 3) := by decide +kernel
theorem dX12_street_16 : decode cX12_street 16 = .ok (.ifCond .ne 9, 3) := by decide +kernel
theorem dX12_street_19 : decode cX12_street 19 = .ok (.aload_n 0, 1) := by decide +kernel
theorem dX12_street_20 : decode cX12_street 20 = .ok (.iconst 1, 1) := by decide +kernel
theorem dX12_street_21 : decode cX12_street 21 = .ok (.invokevirtual 234, 3) := by decide +kernel
theorem dX12_street_24 : decode cX12_street 24 = .ok (.ireturn, 1) := by decide +kernel
theorem dX12_street_25 : decode cX12_street 25 = .ok (.aload_n 0, 1) := by decide +kernel
theorem dX12_street_26 : decode cX12_street 26 = .ok (.iload_n 1, 1) := by decide +kernel
theorem dX12_street_27 : decode cX12_street 27 = .ok (.putfield 73, 3) := by decide +kernel
theorem dX12_street_30 : decode cX12_street 30 = .ok (.aload_n 0, 1) := by decide +kernel
theorem dX12_street_31 : decode cX12_street 31 = .ok (.iconst 0, 1) := by decide +kernel
theorem dX12_street_32 : decode cX12_street 32 = .ok (.putfield 70, 3) := by decide +kernel
theorem dX12_street_35 : decode cX12_street 35 = .ok (.aload_n 0, 1) := by decide +kernel
theorem dX12_street_36 : decode cX12_street 36 = .ok (.iconst 0, 1) := by decide +kernel
theorem dX12_street_37 : decode cX12_street 37 = .ok (.putfield 76, 3) := by decide +kernel
theorem dX12_street_40 : decode cX12_street 40 = .ok (.aload_n 0, 1) := by decide +kernel
theorem dX12_street_41 : decode cX12_street 41 = .ok (.iconst 0, 1) := by decide +kernel
theorem dX12_street_42 : decode cX12_street 42 = .ok (.putfield 102, 3) := by decide +kernel
theorem dX12_street_45 : decode cX12_street 45 = .ok (.aload_n 0, 1) := by decide +kernel
theorem dX12_street_46 : decode cX12_street 46 = .ok (.iconst 0, 1) := by decide +kernel
theorem dX12_street_47 : decode cX12_street 47 = .ok (.putfield 144, 3) := by decide +kernel
theorem dX12_street_50 : decode cX12_street 50 = .ok (.iconst 0, 1) := by decide +kernel
theorem dX12_street_51 : decode cX12_street 51 = .ok (.istore_n 2, 1) := by decide +kernel
theorem dX12_street_52 : decode cX12_street 52 = .ok (.iload_n 2, 1) := by decide +kernel
theorem dX12_street_53 : decode cX12_street 53 = .ok (.sipush 3240, 3) := by decide +kernel
theorem dX12_street_56 : decode cX12_street 56 = .ok (.if_icmp .ge 16, 3) := by decide +kernel
theorem dX12_street_59 : decode cX12_street 59 = .ok (.aload_n 0, 1) := by decide +kernel
theorem dX12_street_60 : decode cX12_street 60 = .ok (.getfield 13, 3) := by decide +kernel
theorem dX12_street_63 : decode cX12_street 63 = .ok (.iload_n 2, 1) := by decide +kernel
theorem dX12_street_64 : decode cX12_street 64 = .ok (.iconst 0, 1) := by decide +kernel
theorem dX12_street_65 : decode cX12_street 65 = .ok (.iastore, 1) := by decide +kernel
theorem dX12_street_66 : decode cX12_street 66 = .ok (.iinc 2 1, 3) := by decide +kernel
theorem dX12_street_69 : decode cX12_street 69 = .ok (.goto (-17), 3) := by decide +kernel
theorem dX12_street_72 : decode cX12_street 72 = .ok (.aload_n 0, 1) := by decide +kernel
theorem dX12_street_73 : decode cX12_street 73 = .ok (.getfield 13, 3) := by decide +kernel
theorem dX12_street_76 : decode cX12_street 76 = .ok (.iconst 3, 1) := by decide +kernel
theorem dX12_street_77 : decode cX12_street 77 = .ok (.bipush 100, 2) := by decide +kernel
theorem dX12_street_79 : decode cX12_street 79 = .ok (.iastore, 1) := by decide +kernel
theorem dX12_street_80 : decode cX12_street 80 = .ok (.aload_n 0, 1) := by decide +kernel
theorem dX12_street_81 : decode cX12_street 81 = .ok (.invokevirtual 121, 3) := by decide +kernel
theorem dX12_street_84 : decode cX12_street 84 = .ok (.aload_n 0, 1) := by decide +kernel
theorem dX12_street_85 : decode cX12_street 85 = .ok (.ldc 237, 2) := by decide +kernel
theorem dX12_street_87 : decode cX12_street 87 = .ok (.invokevirtual 206, 3) := by decide +kernel
theorem dX12_street_90 : decode cX12_street 90 = .ok (.aload_n 0, 1) := by decide +kernel
theorem dX12_street_91 : decode cX12_street 91 = .ok (.ldc 239, 2) := by decide +kernel
theorem dX12_street_93 : decode cX12_street 93 = .ok (.invokevirtual 132, 3) := by decide +kernel
theorem dX12_street_96 : decode cX12_street 96 = .ok (.ifCond .eq 13, 3) := by decide +kernel
theorem dX12_street_99 : decode cX12_street 99 = .ok (.aload_n 0, 1) := by decide +kernel
theorem dX12_street_100 : decode cX12_street 100 = .ok (.getfield 13, 3) := by decide +kernel
theorem dX12_street_103 : decode cX12_street 103 = .ok (.iconst 2, 1) := by decide +kernel
theorem dX12_street_104 : decode cX12_street 104 = .ok (.iconst 1, 1) := by decide +kernel
theorem dX12_street_105 : decode cX12_street 105 = .ok (.iastore, 1) := by decide +kernel
theorem dX12_street_106 : decode cX12_street 106 = .ok (.goto 9, 3) := by decide +kernel
theorem dX12_street_109 : decode cX12_street 109 = .ok (.aload_n 0, 1) := by decide +kernel
theorem dX12_street_110 : decode cX12_street 110 = .ok (.ldc 241, 2) := by decide +kernel
theorem dX12_street_112 : decode cX12_street 112 = .ok (.invokevirtual 206, 3) := by decide +kernel
theorem dX12_street_115 : decode cX12_street 115 = .ok (.aload_n 0, 1) := by decide +kernel
theorem dX12_street_116 : decode cX12_street 116 = .ok (.invokevirtual 231, 3) := by decide +kernel
theorem dX12_street_119 : decode cX12_street 119 = .ok (.aload_n 0, 1) := by decide +kernel
theorem dX12_street_120 : decode cX12_street 120 = .ok (.getfield 102, 3) := by decide +kernel
theorem dX12_street_123 : decode cX12_street 123 = .ok (.ifCond .ne 17, 3) := by decide +kernel
theorem dX12_street_126 : decode cX12_street 126 = .ok (.aload_n 0, 1) := by decide +kernel
theorem dX12_street_127 : decode cX12_street 127 = .ok (.getfield 82, 3) := by decide +kernel
theorem dX12_street_130 : decode cX12_street 130 = .ok (.ifCond .eq 10, 3) := by decide +kernel
theorem dX12_street_133 : decode cX12_street 133 = .ok (.aload_n 0, 1) := by decide +kernel
theorem dX12_street_134 : decode cX12_street 134 = .ok (.invokevirtual 243, 3) := by decide +kernel
theorem dX12_street_137 : decode cX12_street 137 = .ok (.goto (-18), 3) := by decide +kernel
theorem dX12_street_140 : decode cX12_street 140 = .ok (.aload_n 0, 1) := by decide +kernel
theorem dX12_street_141 : decode cX12_street 141 = .ok (.aload_n 0, 1) := by decide +kernel
theorem dX12_street_142 : decode cX12_street 142 = .ok (.getfield 102, 3) := by decide +kernel
theorem dX12_street_145 : decode cX12_street 145 = .ok (.putfield 246, 3) := by decide +kernel
theorem dX12_street_148 : decode cX12_street 148 = .ok (.aload_n 0, 1) := by decide +kernel
theorem dX12_street_149 : decode cX12_street 149 = .ok (.aload_n 0, 1) := by decide +kernel
theorem dX12_street_150 : decode cX12_street 150 = .ok (.getfield 102, 3) := by decide +kernel
theorem dX12_street_153 : decode cX12_street 153 = .ok (.ifCond .ne 7, 3) := by decide +kernel
theorem dX12_street_156 : decode cX12_street 156 = .ok (.iconst (-1), 1) := by decide +kernel
theorem dX12_street_157 : decode cX12_street 157 = .ok (.goto 7, 3) := by decide +kernel
theorem dX12_street_160 : decode cX12_street 160 = .ok (.aload_n 0, 1) := by decide +kernel
theorem dX12_street_161 : decode cX12_street 161 = .ok (.getfield 105, 3) := by decide +kernel
theorem dX12_street_164 : decode cX12_street 164 = .ok (.putfield 26, 3) := by decide +kernel
theorem dX12_street_167 : decode cX12_street 167 = .ok (.aload_n 0, 1) := by decide +kernel
theorem dX12_street_168 : decode cX12_street 168 = .ok (.getfield 102, 3) := by decide +kernel
theorem dX12_street_171 : decode cX12_street 171 = .ok (.ifCond .eq 11, 3) := by decide +kernel
theorem dX12_street_174 : decode cX12_street 174 = .ok (.bipush (-10), 2) := by decide +kernel
theorem dX12_street_176 : decode cX12_street 176 = .ok (.aload_n 0, 1) := by decide +kernel
theorem dX12_street_177 : decode cX12_street 177 = .ok (.getfield 102, 3) := by decide +kernel
theorem dX12_street_180 : decode cX12_street 180 = .ok (.isub, 1) := by decide +kernel
theorem dX12_street_181 : decode cX12_street 181 = .ok (.ireturn, 1) := by decide +kernel
theorem dX12_street_182 : decode cX12_street 182 = .ok (.iconst 0, 1) := by decide +kernel
theorem dX12_street_183 : decode cX12_street 183 = .ok (.istore_n 2, 1) := by decide +kernel
theorem dX12_street_184 : decode cX12_street 184 = .ok (.iload_n 2, 1) := by decide +kernel
theorem dX12_street_185 : decode cX12_street 185 = .ok (.sipush 3240, 3) := by decide +kernel
theorem dX12_street_188 : decode cX12_street 188 = .ok (.if_icmp .ge 21, 3) := by decide +kernel
theorem dX12_street_191 : decode cX12_street 191 = .ok (.aload_n 0, 1) := by decide +kernel
theorem dX12_street_192 : decode cX12_street 192 = .ok (.getfield 9, 3) := by decide +kernel
theorem dX12_street_195 : decode cX12_street 195 = .ok (.iload_n 2, 1) := by decide +kernel
theorem dX12_street_196 : decode cX12_street 196 = .ok (.aload_n 0, 1) := by decide +kernel
theorem dX12_street_197 : decode cX12_street 197 = .ok (.getfield 13, 3) := by decide +kernel
theorem dX12_street_200 : decode cX12_street 200 = .ok (.iload_n 2, 1) := by decide +kernel
theorem dX12_street_201 : decode cX12_street 201 = .ok (.iaload, 1) := by decide +kernel
theorem dX12_street_202 : decode cX12_street 202 = .ok (.iastore, 1) := by decide +kernel
theorem dX12_street_203 : decode cX12_street 203 = .ok (.iinc 2 1, 3) := by decide +kernel
theorem dX12_street_206 : decode cX12_street 206 = .ok (.goto (-22), 3) := by decide +kernel
theorem dX12_street_209 : decode cX12_street 209 = .ok (.iconst 0, 1) := by decide +kernel
theorem dX12_street_210 : decode cX12_street 210 = .ok (.istore_n 2, 1) := by decide +kernel
theorem dX12_street_211 : decode cX12_street 211 = .ok (.iload_n 2, 1) := by decide +kernel
theorem dX12_street_212 : decode cX12_street 212 = .ok (.bipush 44, 2) := by decide +kernel
theorem dX12_street_214 : decode cX12_street 214 = .ok (.if_icmp .ge 27, 3) := by decide +kernel
theorem dX12_street_217 : decode cX12_street 217 = .ok (.aload_n 0, 1) := by decide +kernel
theorem dX12_street_218 : decode cX12_street 218 = .ok (.getfield 9, 3) := by decide +kernel
theorem dX12_street_221 : decode cX12_street 221 = .ok (.bipush 52, 2) := by decide +kernel
theorem dX12_street_223 : decode cX12_street 223 = .ok (.iload_n 2, 1) := by decide +kernel
theorem dX12_street_224 : decode cX12_street 224 = .ok (.iadd, 1) := by decide +kernel
theorem dX12_street_225 : decode cX12_street 225 = .ok (.aload_n 0, 1) := by decide +kernel
theorem dX12_street_226 : decode cX12_street 226 = .ok (.getfield 9, 3) := by decide +kernel
theorem dX12_street_229 : decode cX12_street 229 = .ok (.bipush 8, 2) := by decide +kernel
theorem dX12_street_231 : decode cX12_street 231 = .ok (.iload_n 2, 1) := by decide +kernel
theorem dX12_street_232 : decode cX12_street 232 = .ok (.iadd, 1) := by decide +kernel
theorem dX12_street_233 : decode cX12_street 233 = .ok (.iaload, 1) := by decide +kernel
theorem dX12_street_234 : decode cX12_street 234 = .ok (.iastore, 1) := by decide +kernel
theorem dX12_street_235 : decode cX12_street 235 = .ok (.iinc 2 1, 3) := by decide +kernel
theorem dX12_street_238 : decode cX12_street 238 = .ok (.goto (-27), 3) := by decide +kernel
theorem dX12_street_241 : decode cX12_street 241 = .ok (.aload_n 0, 1) := by decide +kernel
theorem dX12_street_242 : decode cX12_street 242 = .ok (.getfield 9, 3) := by decide +kernel
theorem dX12_street_245 : decode cX12_street 245 = .ok (.iconst 0, 1) := by decide +kernel
theorem dX12_street_246 : decode cX12_street 246 = .ok (.iaload, 1) := by decide +kernel
theorem dX12_street_247 : decode cX12_street 247 = .ok (.ireturn, 1) := by decide +kernel
theorem dX12_fault_0 : decode cX12_fault 0 = .ok (.aload_n 0, 1) := by decide +kernel
theorem dX12_fault_1 : decode cX12_fault 1 = .ok (.iconst 0, 1) := by decide +kernel
theorem dX12_fault_2 : decode cX12_fault 2 = .ok (.putfield 67, 3) := by decide +kernel
theorem dX12_fault_5 : decode cX12_fault 5 = .ok (.iload_n 1, 1) := by decide +kernel
theorem dX12_fault_6 : decode cX12_fault 6 = .ok (.ifCond .ne 10, 3) := by decide +kernel
theorem dX12_fault_9 : decode cX12_fault 9 = .ok (.aload_n 0, 1) := by decide +kernel
theorem dX12_fault_10 : decode cX12_fault 10 = .ok (.getfield 246, 3) := by decide +kernel
theorem dX12_fault_13 : decode cX12_fault 13 = .ok (.goto 16, 3) := by decide +kernel
theorem dX12_fault_16 : decode cX12_fault 16 = .ok (.iload_n 1, 1) := by decide +kernel
theorem dX12_fault_17 : decode cX12_fault 17 = .ok (.iconst 1, 1) := by decide +kernel
theorem dX12_fault_18 : decode cX12_fault 18 = .ok (.if_icmp .ne 10, 3) := by decide +kernel
theorem dX12_fault_21 : decode cX12_fault 21 = .ok (.aload_n 0, 1) := by decide +kernel
theorem dX12_fault_22 : decode cX12_fault 22 = .ok (.getfield 26, 3) := by decide +kernel
theorem dX12_fault_25 : decode cX12_fault 25 = .ok (.goto 4, 3) := by decide +kernel
theorem dX12_fault_28 : decode cX12_fault 28 = .ok (.iconst (-1), 1) := by decide +kernel
theorem dX12_fault_29 : decode cX12_fault 29 = .ok (.ireturn, 1) := by decide +kernel
theorem dX12_houses_0 : decode cX12_houses 0 = .ok (.aload_n 0, 1) := by decide +kernel
theorem dX12_houses_1 : decode cX12_houses 1 = .ok (.getfield 9, 3) := by decide +kernel
theorem dX12_houses_4 : decode cX12_houses 4 = .ok (.iconst 1, 1) := by decide +kernel
theorem dX12_houses_5 : decode cX12_houses 5 = .ok (.iaload, 1) := by decide +kernel
theorem dX12_houses_6 : decode cX12_houses 6 = .ok (.ireturn, 1) := by decide +kernel
theorem dX12_isHouse_0 : decode cX12_isHouse 0 = .ok (.lload_n 1, 1) := by decide +kernel
theorem dX12_isHouse_1 : decode cX12_isHouse 1 = .ok (.lconst 0, 1) := by decide +kernel
theorem dX12_isHouse_2 : decode cX12_isHouse 2 = .ok (.aload_n 0, 1) := by decide +kernel
theorem dX12_isHouse_3 : decode cX12_isHouse 3 = .ok (.invokevirtual 249, 3) := by decide +kernel
theorem dX12_isHouse_6 : decode cX12_isHouse 6 = .ok (.iconst 1, 1) := by decide +kernel
theorem dX12_isHouse_7 : decode cX12_isHouse 7 = .ok (.isub, 1) := by decide +kernel
theorem dX12_isHouse_8 : decode cX12_isHouse 8 = .ok (.i2l, 1) := by decide +kernel
theorem dX12_isHouse_9 : decode cX12_isHouse 9 = .ok (.invokestatic 128, 3) := by decide +kernel
theorem dX12_isHouse_12 : decode cX12_isHouse 12 = .ok (.ireturn, 1) := by decide +kernel
theorem dX12_isGone_0 : decode cX12_isGone 0 = .ok (.aload_n 0, 1) := by decide +kernel
theorem dX12_isGone_1 : decode cX12_isGone 1 = .ok (.getfield 9, 3) := by decide +kernel
theorem dX12_isGone_4 : decode cX12_isGone 4 = .ok (.bipush 29, 2) := by decide +kernel
theorem dX12_isGone_6 : decode cX12_isGone 6 = .ok (.iload_n 1, 1) := by decide +kernel
theorem dX12_isGone_7 : decode cX12_isGone 7 = .ok (.iadd, 1) := by decide +kernel
theorem dX12_isGone_8 : decode cX12_isGone 8 = .ok (.iaload, 1) := by decide +kernel
theorem dX12_isGone_9 : decode cX12_isGone 9 = .ok (.iconst 1, 1) := by decide +kernel
theorem dX12_isGone_10 : decode cX12_isGone 10 = .ok (.if_icmp .ne 7, 3) := by decide +kernel
theorem dX12_isGone_13 : decode cX12_isGone 13 = .ok (.iconst 1, 1) := by decide +kernel
theorem dX12_isGone_14 : decode cX12_isGone 14 = .ok (.goto 4, 3) := by decide +kernel
theorem dX12_isGone_17 : decode cX12_isGone 17 = .ok (.iconst 0, 1) := by decide +kernel
theorem dX12_isGone_18 : decode cX12_isGone 18 = .ok (.ireturn, 1) := by decide +kernel
theorem dX12_next_0 : decode cX12_next 0 = .ok (.iload_n 1, 1) := by decide +kernel
theorem dX12_next_1 : decode cX12_next 1 = .ok (.aload_n 0, 1) := by decide +kernel
theorem dX12_next_2 : decode cX12_next 2 = .ok (.invokevirtual 249, 3) := by decide +kernel
theorem dX12_next_5 : decode cX12_next 5 = .ok (.iconst 1, 1) := by decide +kernel
theorem dX12_next_6 : decode cX12_next 6 = .ok (.isub, 1) := by decide +kernel
theorem dX12_next_7 : decode cX12_next 7 = .ok (.if_icmp .ge 9, 3) := by decide +kernel
theorem dX12_next_10 : decode cX12_next 10 = .ok (.iload_n 1, 1) := by decide +kernel
theorem dX12_next_11 : decode cX12_next 11 = .ok (.iconst 1, 1) := by decide +kernel
theorem dX12_next_12 : decode cX12_next 12 = .ok (.iadd, 1) := by decide +kernel
theorem dX12_next_13 : decode cX12_next 13 = .ok (.goto 18, 3) := by decide +kernel
theorem dX12_next_16 : decode cX12_next 16 = .ok (.aload_n 0, 1) := by decide +kernel
theorem dX12_next_17 : decode cX12_next 17 = .ok (.getfield 9, 3) := by decide +kernel
theorem dX12_next_20 : decode cX12_next 20 = .ok (.iconst 2, 1) := by decide +kernel
theorem dX12_next_21 : decode cX12_next 21 = .ok (.iaload, 1) := by decide +kernel
theorem dX12_next_22 : decode cX12_next 22 = .ok (.iconst 1, 1) := by decide +kernel
theorem dX12_next_23 : decode cX12_next 23 = .ok (.if_icmp .ne 7, 3) := by decide +kernel
theorem dX12_next_26 : decode cX12_next 26 = .ok (.iconst 0, 1) := by decide +kernel
theorem dX12_next_27 : decode cX12_next 27 = .ok (.goto 4, 3) := by decide +kernel
theorem dX12_next_30 : decode cX12_next 30 = .ok (.iconst (-1), 1) := by decide +kernel
theorem dX12_next_31 : decode cX12_next 31 = .ok (.ireturn, 1) := by decide +kernel
theorem dX12_bound_0 : decode cX12_bound 0 = .ok (.ldc2_w 252, 3) := by decide +kernel
theorem dX12_bound_3 : decode cX12_bound 3 = .ok (.ldc2_w 254, 3) := by decide +kernel
theorem dX12_bound_6 : decode cX12_bound 6 = .ok (.lload_n 0, 1) := by decide +kernel
theorem dX12_bound_7 : decode cX12_bound 7 = .ok (.invokestatic 256, 3) := by decide +kernel
theorem dX12_bound_10 : decode cX12_bound 10 = .ok (.invokestatic 259, 3) := by decide +kernel
theorem dX12_bound_13 : decode cX12_bound 13 = .ok (.l2i, 1) := by decide +kernel
theorem dX12_bound_14 : decode cX12_bound 14 = .ok (.ireturn, 1) := by decide +kernel
theorem dX12_done_0 : decode cX12_done 0 = .ok (.iload_n 0, 1) := by decide +kernel
theorem dX12_done_1 : decode cX12_done 1 = .ok (.tableswitch 114 10 16 #[43, 50, 57, 64, 76, 88, 100], 43) := by decide +kernel
theorem dX12_done_44 : decode cX12_done 44 = .ok (.lload_n 1, 1) := by decide +kernel
theorem dX12_done_45 : decode cX12_done 45 = .ok (.lload_n 3, 1) := by decide +kernel
theorem dX12_done_46 : decode cX12_done 46 = .ok (.ladd, 1) := by decide +kernel
theorem dX12_done_47 : decode cX12_done 47 = .ok (.invokestatic 262, 3) := by decide +kernel
theorem dX12_done_50 : decode cX12_done 50 = .ok (.ireturn, 1) := by decide +kernel
theorem dX12_done_51 : decode cX12_done 51 = .ok (.lload_n 1, 1) := by decide +kernel
theorem dX12_done_52 : decode cX12_done 52 = .ok (.lload_n 3, 1) := by decide +kernel
theorem dX12_done_53 : decode cX12_done 53 = .ok (.lsub, 1) := by decide +kernel
theorem dX12_done_54 : decode cX12_done 54 = .ok (.invokestatic 262, 3) := by decide +kernel
theorem dX12_done_57 : decode cX12_done 57 = .ok (.ireturn, 1) := by decide +kernel
theorem dX12_done_58 : decode cX12_done 58 = .ok (.lload_n 1, 1) := by decide +kernel
theorem dX12_done_59 : decode cX12_done 59 = .ok (.lload_n 3, 1) := by decide +kernel
theorem dX12_done_60 : decode cX12_done 60 = .ok (.lmul, 1) := by decide +kernel
theorem dX12_done_61 : decode cX12_done 61 = .ok (.invokestatic 262, 3) := by decide +kernel
theorem dX12_done_64 : decode cX12_done 64 = .ok (.ireturn, 1) := by decide +kernel
theorem dX12_done_65 : decode cX12_done 65 = .ok (.lload_n 1, 1) := by decide +kernel
theorem dX12_done_66 : decode cX12_done 66 = .ok (.lload_n 3, 1) := by decide +kernel
theorem dX12_done_67 : decode cX12_done 67 = .ok (.lcmp, 1) := by decide +kernel
theorem dX12_done_68 : decode cX12_done 68 = .ok (.ifCond .ne 7, 3) := by decide +kernel
theorem dX12_done_71 : decode cX12_done 71 = .ok (.iconst 1, 1) := by decide +kernel
theorem dX12_done_72 : decode cX12_done 72 = .ok (.goto 4, 3) := by decide +kernel
theorem dX12_done_75 : decode cX12_done 75 = .ok (.iconst 0, 1) := by decide +kernel
theorem dX12_done_76 : decode cX12_done 76 = .ok (.ireturn, 1) := by decide +kernel
theorem dX12_done_77 : decode cX12_done 77 = .ok (.lload_n 1, 1) := by decide +kernel
theorem dX12_done_78 : decode cX12_done 78 = .ok (.lload_n 3, 1) := by decide +kernel
theorem dX12_done_79 : decode cX12_done 79 = .ok (.lcmp, 1) := by decide +kernel
theorem dX12_done_80 : decode cX12_done 80 = .ok (.ifCond .ge 7, 3) := by decide +kernel
theorem dX12_done_83 : decode cX12_done 83 = .ok (.iconst 1, 1) := by decide +kernel
theorem dX12_done_84 : decode cX12_done 84 = .ok (.goto 4, 3) := by decide +kernel
theorem dX12_done_87 : decode cX12_done 87 = .ok (.iconst 0, 1) := by decide +kernel
theorem dX12_done_88 : decode cX12_done 88 = .ok (.ireturn, 1) := by decide +kernel
theorem dX12_done_89 : decode cX12_done 89 = .ok (.lload_n 1, 1) := by decide +kernel
theorem dX12_done_90 : decode cX12_done 90 = .ok (.lload_n 3, 1) := by decide +kernel
theorem dX12_done_91 : decode cX12_done 91 = .ok (.lcmp, 1) := by decide +kernel
theorem dX12_done_92 : decode cX12_done 92 = .ok (.ifCond .le 7, 3) := by decide +kernel
theorem dX12_done_95 : decode cX12_done 95 = .ok (.iconst 1, 1) := by decide +kernel
theorem dX12_done_96 : decode cX12_done 96 = .ok (.goto 4, 3) := by decide +kernel
theorem dX12_done_99 : decode cX12_done 99 = .ok (.iconst 0, 1) := by decide +kernel
theorem dX12_done_100 : decode cX12_done 100 = .ok (.ireturn, 1) := by decide +kernel
theorem dX12_done_101 : decode cX12_done 101 = .ok (.lload_n 1, 1) := by decide +kernel
theorem dX12_done_102 : decode cX12_done 102 = .ok (.lload_n 3, 1) := by decide +kernel
theorem dX12_done_103 : decode cX12_done 103 = .ok (.ladd, 1) := by decide +kernel
theorem dX12_done_104 : decode cX12_done 104 = .ok (.lconst 1, 1) := by decide +kernel
theorem dX12_done_105 : decode cX12_done 105 = .ok (.lcmp, 1) := by decide +kernel
theorem dX12_done_106 : decode cX12_done 106 = .ok (.ifCond .le 7, 3) := by decide +kernel
theorem dX12_done_109 : decode cX12_done 109 = .ok (.iconst 1, 1) := by decide +kernel
theorem dX12_done_110 : decode cX12_done 110 = .ok (.goto 4, 3) := by decide +kernel
theorem dX12_done_113 : decode cX12_done 113 = .ok (.iconst 0, 1) := by decide +kernel
theorem dX12_done_114 : decode cX12_done 114 = .ok (.ireturn, 1) := by decide +kernel
theorem dX12_done_115 : decode cX12_done 115 = .ok (.lload_n 1, 1) := by decide +kernel
theorem dX12_done_116 : decode cX12_done 116 = .ok (.lload_n 3, 1) := by decide +kernel
theorem dX12_done_117 : decode cX12_done 117 = .ok (.ladd, 1) := by decide +kernel
theorem dX12_done_118 : decode cX12_done 118 = .ok (.lconst 0, 1) := by decide +kernel
theorem dX12_done_119 : decode cX12_done 119 = .ok (.lcmp, 1) := by decide +kernel
theorem dX12_done_120 : decode cX12_done 120 = .ok (.ifCond .le 7, 3) := by decide +kernel
theorem dX12_done_123 : decode cX12_done 123 = .ok (.iconst 1, 1) := by decide +kernel
theorem dX12_done_124 : decode cX12_done 124 = .ok (.goto 4, 3) := by decide +kernel
theorem dX12_done_127 : decode cX12_done 127 = .ok (.iconst 0, 1) := by decide +kernel
theorem dX12_done_128 : decode cX12_done 128 = .ok (.ireturn, 1) := by decide +kernel
theorem dX12_lawOf_0 : decode cX12_lawOf 0 = .ok (.iconst 0, 1) := by decide +kernel
theorem dX12_lawOf_1 : decode cX12_lawOf 1 = .ok (.istore_n 3, 1) := by decide +kernel
theorem dX12_lawOf_2 : decode cX12_lawOf 2 = .ok (.iconst 0, 1) := by decide +kernel
theorem dX12_lawOf_3 : decode cX12_lawOf 3 = .ok (.istore 4, 2) := by decide +kernel
theorem dX12_lawOf_5 : decode cX12_lawOf 5 = .ok (.iload 4, 2) := by decide +kernel
theorem dX12_lawOf_7 : decode cX12_lawOf 7 = .ok (.aload_n 0, 1) := by decide +kernel
theorem dX12_lawOf_8 : decode cX12_lawOf 8 = .ok (.getfield 9, 3) := by decide +kernel
theorem dX12_lawOf_11 : decode cX12_lawOf 11 = .ok (.iload_n 1, 1) := by decide +kernel
theorem dX12_lawOf_12 : decode cX12_lawOf 12 = .ok (.iaload, 1) := by decide +kernel
theorem dX12_lawOf_13 : decode cX12_lawOf 13 = .ok (.if_icmp .ge 126, 3) := by decide +kernel
theorem dX12_lawOf_16 : decode cX12_lawOf 16 = .ok (.aload_n 0, 1) := by decide +kernel
theorem dX12_lawOf_17 : decode cX12_lawOf 17 = .ok (.getfield 9, 3) := by decide +kernel
theorem dX12_lawOf_20 : decode cX12_lawOf 20 = .ok (.iload_n 2, 1) := by decide +kernel
theorem dX12_lawOf_21 : decode cX12_lawOf 21 = .ok (.iload 4, 2) := by decide +kernel
theorem dX12_lawOf_23 : decode cX12_lawOf 23 = .ok (.iadd, 1) := by decide +kernel
theorem dX12_lawOf_24 : decode cX12_lawOf 24 = .ok (.iaload, 1) := by decide +kernel
theorem dX12_lawOf_25 : decode cX12_lawOf 25 = .ok (.istore 5, 2) := by decide +kernel
theorem dX12_lawOf_27 : decode cX12_lawOf 27 = .ok (.iload 5, 2) := by decide +kernel
theorem dX12_lawOf_29 : decode cX12_lawOf 29 = .ok (.bipush 100, 2) := by decide +kernel
theorem dX12_lawOf_31 : decode cX12_lawOf 31 = .ok (.if_icmp .lt 42, 3) := by decide +kernel
theorem dX12_lawOf_34 : decode cX12_lawOf 34 = .ok (.aload_n 0, 1) := by decide +kernel
theorem dX12_lawOf_35 : decode cX12_lawOf 35 = .ok (.getfield 30, 3) := by decide +kernel
theorem dX12_lawOf_38 : decode cX12_lawOf 38 = .ok (.iload_n 3, 1) := by decide +kernel
theorem dX12_lawOf_39 : decode cX12_lawOf 39 = .ok (.iload 5, 2) := by decide +kernel
theorem dX12_lawOf_41 : decode cX12_lawOf 41 = .ok (.sipush 1000, 3) := by decide +kernel
theorem dX12_lawOf_44 : decode cX12_lawOf 44 = .ok (.if_icmp .lt 12, 3) := by decide +kernel
theorem dX12_lawOf_47 : decode cX12_lawOf 47 = .ok (.iload 5, 2) := by decide +kernel
theorem dX12_lawOf_49 : decode cX12_lawOf 49 = .ok (.sipush 1000, 3) := by decide +kernel
theorem dX12_lawOf_52 : decode cX12_lawOf 52 = .ok (.isub, 1) := by decide +kernel
theorem dX12_lawOf_53 : decode cX12_lawOf 53 = .ok (.goto 13, 3) := by decide +kernel
theorem dX12_lawOf_56 : decode cX12_lawOf 56 = .ok (.aload_n 0, 1) := by decide +kernel
theorem dX12_lawOf_57 : decode cX12_lawOf 57 = .ok (.getfield 33, 3) := by decide +kernel
theorem dX12_lawOf_60 : decode cX12_lawOf 60 = .ok (.iload 5, 2) := by decide +kernel
theorem dX12_lawOf_62 : decode cX12_lawOf 62 = .ok (.bipush 100, 2) := by decide +kernel
theorem dX12_lawOf_64 : decode cX12_lawOf 64 = .ok (.isub, 1) := by decide +kernel
theorem dX12_lawOf_65 : decode cX12_lawOf 65 = .ok (.iaload, 1) := by decide +kernel
theorem dX12_lawOf_66 : decode cX12_lawOf 66 = .ok (.iastore, 1) := by decide +kernel
theorem dX12_lawOf_67 : decode cX12_lawOf 67 = .ok (.iinc 3 1, 3) := by decide +kernel
theorem dX12_lawOf_70 : decode cX12_lawOf 70 = .ok (.goto 63, 3) := by decide +kernel
theorem dX12_lawOf_73 : decode cX12_lawOf 73 = .ok (.iload 5, 2) := by decide +kernel
theorem dX12_lawOf_75 : decode cX12_lawOf 75 = .ok (.bipush 18, 2) := by decide +kernel
theorem dX12_lawOf_77 : decode cX12_lawOf 77 = .ok (.if_icmp .ne 24, 3) := by decide +kernel
theorem dX12_lawOf_80 : decode cX12_lawOf 80 = .ok (.aload_n 0, 1) := by decide +kernel
theorem dX12_lawOf_81 : decode cX12_lawOf 81 = .ok (.getfield 30, 3) := by decide +kernel
theorem dX12_lawOf_84 : decode cX12_lawOf 84 = .ok (.iload_n 3, 1) := by decide +kernel
theorem dX12_lawOf_85 : decode cX12_lawOf 85 = .ok (.iconst 1, 1) := by decide +kernel
theorem dX12_lawOf_86 : decode cX12_lawOf 86 = .ok (.isub, 1) := by decide +kernel
theorem dX12_lawOf_87 : decode cX12_lawOf 87 = .ok (.iconst 1, 1) := by decide +kernel
theorem dX12_lawOf_88 : decode cX12_lawOf 88 = .ok (.aload_n 0, 1) := by decide +kernel
theorem dX12_lawOf_89 : decode cX12_lawOf 89 = .ok (.getfield 30, 3) := by decide +kernel
theorem dX12_lawOf_92 : decode cX12_lawOf 92 = .ok (.iload_n 3, 1) := by decide +kernel
theorem dX12_lawOf_93 : decode cX12_lawOf 93 = .ok (.iconst 1, 1) := by decide +kernel
theorem dX12_lawOf_94 : decode cX12_lawOf 94 = .ok (.isub, 1) := by decide +kernel
theorem dX12_lawOf_95 : decode cX12_lawOf 95 = .ok (.iaload, 1) := by decide +kernel
theorem dX12_lawOf_96 : decode cX12_lawOf 96 = .ok (.isub, 1) := by decide +kernel
theorem dX12_lawOf_97 : decode cX12_lawOf 97 = .ok (.iastore, 1) := by decide +kernel
theorem dX12_lawOf_98 : decode cX12_lawOf 98 = .ok (.goto 35, 3) := by decide +kernel
theorem dX12_lawOf_101 : decode cX12_lawOf 101 = .ok (.iinc 3 (-1), 3) := by decide +kernel
theorem dX12_lawOf_104 : decode cX12_lawOf 104 = .ok (.aload_n 0, 1) := by decide +kernel
theorem dX12_lawOf_105 : decode cX12_lawOf 105 = .ok (.getfield 30, 3) := by decide +kernel
theorem dX12_lawOf_108 : decode cX12_lawOf 108 = .ok (.iload_n 3, 1) := by decide +kernel
theorem dX12_lawOf_109 : decode cX12_lawOf 109 = .ok (.iconst 1, 1) := by decide +kernel
theorem dX12_lawOf_110 : decode cX12_lawOf 110 = .ok (.isub, 1) := by decide +kernel
theorem dX12_lawOf_111 : decode cX12_lawOf 111 = .ok (.iload 5, 2) := by decide +kernel
theorem dX12_lawOf_113 : decode cX12_lawOf 113 = .ok (.aload_n 0, 1) := by decide +kernel
theorem dX12_lawOf_114 : decode cX12_lawOf 114 = .ok (.getfield 30, 3) := by decide +kernel
theorem dX12_lawOf_117 : decode cX12_lawOf 117 = .ok (.iload_n 3, 1) := by decide +kernel
theorem dX12_lawOf_118 : decode cX12_lawOf 118 = .ok (.iconst 1, 1) := by decide +kernel
theorem dX12_lawOf_119 : decode cX12_lawOf 119 = .ok (.isub, 1) := by decide +kernel
theorem dX12_lawOf_120 : decode cX12_lawOf 120 = .ok (.iaload, 1) := by decide +kernel
theorem dX12_lawOf_121 : decode cX12_lawOf 121 = .ok (.i2l, 1) := by decide +kernel
theorem dX12_lawOf_122 : decode cX12_lawOf 122 = .ok (.aload_n 0, 1) := by decide +kernel
theorem dX12_lawOf_123 : decode cX12_lawOf 123 = .ok (.getfield 30, 3) := by decide +kernel
theorem dX12_lawOf_126 : decode cX12_lawOf 126 = .ok (.iload_n 3, 1) := by decide +kernel
theorem dX12_lawOf_127 : decode cX12_lawOf 127 = .ok (.iaload, 1) := by decide +kernel
theorem dX12_lawOf_128 : decode cX12_lawOf 128 = .ok (.i2l, 1) := by decide +kernel
theorem dX12_lawOf_129 : decode cX12_lawOf 129 = .ok (.invokestatic 266, 3) := by decide +kernel
theorem dX12_lawOf_132 : decode cX12_lawOf 132 = .ok (.iastore, 1) := by decide +kernel
theorem dX12_lawOf_133 : decode cX12_lawOf 133 = .ok (.iinc 4 1, 3) := by decide +kernel
theorem dX12_lawOf_136 : decode cX12_lawOf 136 = .ok (.goto (-131), 3) := by decide +kernel
theorem dX12_lawOf_139 : decode cX12_lawOf 139 = .ok (.aload_n 0, 1) := by decide +kernel
theorem dX12_lawOf_140 : decode cX12_lawOf 140 = .ok (.getfield 30, 3) := by decide +kernel
theorem dX12_lawOf_143 : decode cX12_lawOf 143 = .ok (.iconst 0, 1) := by decide +kernel
theorem dX12_lawOf_144 : decode cX12_lawOf 144 = .ok (.iaload, 1) := by decide +kernel
theorem dX12_lawOf_145 : decode cX12_lawOf 145 = .ok (.ireturn, 1) := by decide +kernel
theorem dX12_asks_0 : decode cX12_asks 0 = .ok (.aload_n 0, 1) := by decide +kernel
theorem dX12_asks_1 : decode cX12_asks 1 = .ok (.getfield 33, 3) := by decide +kernel
theorem dX12_asks_4 : decode cX12_asks 4 = .ok (.iconst 0, 1) := by decide +kernel
theorem dX12_asks_5 : decode cX12_asks 5 = .ok (.iload_n 1, 1) := by decide +kernel
theorem dX12_asks_6 : decode cX12_asks 6 = .ok (.iastore, 1) := by decide +kernel
theorem dX12_asks_7 : decode cX12_asks 7 = .ok (.aload_n 0, 1) := by decide +kernel
theorem dX12_asks_8 : decode cX12_asks 8 = .ok (.getfield 33, 3) := by decide +kernel
theorem dX12_asks_11 : decode cX12_asks 11 = .ok (.iconst 1, 1) := by decide +kernel
theorem dX12_asks_12 : decode cX12_asks 12 = .ok (.iload_n 2, 1) := by decide +kernel
theorem dX12_asks_13 : decode cX12_asks 13 = .ok (.iastore, 1) := by decide +kernel
theorem dX12_asks_14 : decode cX12_asks 14 = .ok (.aload_n 0, 1) := by decide +kernel
theorem dX12_asks_15 : decode cX12_asks 15 = .ok (.getfield 33, 3) := by decide +kernel
theorem dX12_asks_18 : decode cX12_asks 18 = .ok (.iconst 2, 1) := by decide +kernel
theorem dX12_asks_19 : decode cX12_asks 19 = .ok (.aload_n 0, 1) := by decide +kernel
theorem dX12_asks_20 : decode cX12_asks 20 = .ok (.getfield 9, 3) := by decide +kernel
theorem dX12_asks_23 : decode cX12_asks 23 = .ok (.bipush 51, 2) := by decide +kernel
theorem dX12_asks_25 : decode cX12_asks 25 = .ok (.iaload, 1) := by decide +kernel
theorem dX12_asks_26 : decode cX12_asks 26 = .ok (.sipush 1000, 3) := by decide +kernel
theorem dX12_asks_29 : decode cX12_asks 29 = .ok (.irem, 1) := by decide +kernel
theorem dX12_asks_30 : decode cX12_asks 30 = .ok (.iastore, 1) := by decide +kernel
theorem dX12_asks_31 : decode cX12_asks 31 = .ok (.return_, 1) := by decide +kernel
theorem dX12_paysNow_0 : decode cX12_paysNow 0 = .ok (.aload_n 0, 1) := by decide +kernel
theorem dX12_paysNow_1 : decode cX12_paysNow 1 = .ok (.getfield 9, 3) := by decide +kernel
theorem dX12_paysNow_4 : decode cX12_paysNow 4 = .ok (.bipush 22, 2) := by decide +kernel
theorem dX12_paysNow_6 : decode cX12_paysNow 6 = .ok (.iload_n 1, 1) := by decide +kernel
theorem dX12_paysNow_7 : decode cX12_paysNow 7 = .ok (.iadd, 1) := by decide +kernel
theorem dX12_paysNow_8 : decode cX12_paysNow 8 = .ok (.iaload, 1) := by decide +kernel
theorem dX12_paysNow_9 : decode cX12_paysNow 9 = .ok (.aload_n 0, 1) := by decide +kernel
theorem dX12_paysNow_10 : decode cX12_paysNow 10 = .ok (.getfield 9, 3) := by decide +kernel
theorem dX12_paysNow_13 : decode cX12_paysNow 13 = .ok (.bipush 36, 2) := by decide +kernel
theorem dX12_paysNow_15 : decode cX12_paysNow 15 = .ok (.iload_n 1, 1) := by decide +kernel
theorem dX12_paysNow_16 : decode cX12_paysNow 16 = .ok (.iadd, 1) := by decide +kernel
theorem dX12_paysNow_17 : decode cX12_paysNow 17 = .ok (.iaload, 1) := by decide +kernel
theorem dX12_paysNow_18 : decode cX12_paysNow 18 = .ok (.invokestatic 201, 3) := by decide +kernel
theorem dX12_paysNow_21 : decode cX12_paysNow 21 = .ok (.istore_n 2, 1) := by decide +kernel
theorem dX12_paysNow_22 : decode cX12_paysNow 22 = .ok (.aload_n 0, 1) := by decide +kernel
theorem dX12_paysNow_23 : decode cX12_paysNow 23 = .ok (.getfield 9, 3) := by decide +kernel
theorem dX12_paysNow_26 : decode cX12_paysNow 26 = .ok (.iconst 4, 1) := by decide +kernel
theorem dX12_paysNow_27 : decode cX12_paysNow 27 = .ok (.iaload, 1) := by decide +kernel
theorem dX12_paysNow_28 : decode cX12_paysNow 28 = .ok (.ifCond .ne 5, 3) := by decide +kernel
theorem dX12_paysNow_31 : decode cX12_paysNow 31 = .ok (.iload_n 2, 1) := by decide +kernel
theorem dX12_paysNow_32 : decode cX12_paysNow 32 = .ok (.ireturn, 1) := by decide +kernel
theorem dX12_paysNow_33 : decode cX12_paysNow 33 = .ok (.aload_n 0, 1) := by decide +kernel
theorem dX12_paysNow_34 : decode cX12_paysNow 34 = .ok (.aload_n 0, 1) := by decide +kernel
theorem dX12_paysNow_35 : decode cX12_paysNow 35 = .ok (.getfield 9, 3) := by decide +kernel
theorem dX12_paysNow_38 : decode cX12_paysNow 38 = .ok (.bipush 36, 2) := by decide +kernel
theorem dX12_paysNow_40 : decode cX12_paysNow 40 = .ok (.iload_n 1, 1) := by decide +kernel
theorem dX12_paysNow_41 : decode cX12_paysNow 41 = .ok (.iadd, 1) := by decide +kernel
theorem dX12_paysNow_42 : decode cX12_paysNow 42 = .ok (.iaload, 1) := by decide +kernel
theorem dX12_paysNow_43 : decode cX12_paysNow 43 = .ok (.iload_n 1, 1) := by decide +kernel
theorem dX12_paysNow_44 : decode cX12_paysNow 44 = .ok (.invokevirtual 270, 3) := by decide +kernel
theorem dX12_paysNow_47 : decode cX12_paysNow 47 = .ok (.aload_n 0, 1) := by decide +kernel
theorem dX12_paysNow_48 : decode cX12_paysNow 48 = .ok (.getfield 33, 3) := by decide +kernel
theorem dX12_paysNow_51 : decode cX12_paysNow 51 = .ok (.iconst 3, 1) := by decide +kernel
theorem dX12_paysNow_52 : decode cX12_paysNow 52 = .ok (.aload_n 0, 1) := by decide +kernel
theorem dX12_paysNow_53 : decode cX12_paysNow 53 = .ok (.getfield 9, 3) := by decide +kernel
theorem dX12_paysNow_56 : decode cX12_paysNow 56 = .ok (.bipush 22, 2) := by decide +kernel
theorem dX12_paysNow_58 : decode cX12_paysNow 58 = .ok (.iload_n 1, 1) := by decide +kernel
theorem dX12_paysNow_59 : decode cX12_paysNow 59 = .ok (.iadd, 1) := by decide +kernel
theorem dX12_paysNow_60 : decode cX12_paysNow 60 = .ok (.iaload, 1) := by decide +kernel
theorem dX12_paysNow_61 : decode cX12_paysNow 61 = .ok (.iastore, 1) := by decide +kernel
theorem dX12_paysNow_62 : decode cX12_paysNow 62 = .ok (.aload_n 0, 1) := by decide +kernel
theorem dX12_paysNow_63 : decode cX12_paysNow 63 = .ok (.getfield 33, 3) := by decide +kernel
theorem dX12_paysNow_66 : decode cX12_paysNow 66 = .ok (.iconst 4, 1) := by decide +kernel
theorem dX12_paysNow_67 : decode cX12_paysNow 67 = .ok (.aload_n 0, 1) := by decide +kernel
theorem dX12_paysNow_68 : decode cX12_paysNow 68 = .ok (.getfield 9, 3) := by decide +kernel
theorem dX12_paysNow_71 : decode cX12_paysNow 71 = .ok (.bipush 8, 2) := by decide +kernel
theorem dX12_paysNow_73 : decode cX12_paysNow 73 = .ok (.iload_n 1, 1) := by decide +kernel
theorem dX12_paysNow_74 : decode cX12_paysNow 74 = .ok (.iadd, 1) := by decide +kernel
theorem dX12_paysNow_75 : decode cX12_paysNow 75 = .ok (.iaload, 1) := by decide +kernel
theorem dX12_paysNow_76 : decode cX12_paysNow 76 = .ok (.iastore, 1) := by decide +kernel
theorem dX12_paysNow_77 : decode cX12_paysNow 77 = .ok (.aload_n 0, 1) := by decide +kernel
theorem dX12_paysNow_78 : decode cX12_paysNow 78 = .ok (.getfield 33, 3) := by decide +kernel
theorem dX12_paysNow_81 : decode cX12_paysNow 81 = .ok (.iconst 5, 1) := by decide +kernel
theorem dX12_paysNow_82 : decode cX12_paysNow 82 = .ok (.aload_n 0, 1) := by decide +kernel
theorem dX12_paysNow_83 : decode cX12_paysNow 83 = .ok (.getfield 9, 3) := by decide +kernel
theorem dX12_paysNow_86 : decode cX12_paysNow 86 = .ok (.bipush 15, 2) := by decide +kernel
theorem dX12_paysNow_88 : decode cX12_paysNow 88 = .ok (.iload_n 1, 1) := by decide +kernel
theorem dX12_paysNow_89 : decode cX12_paysNow 89 = .ok (.iadd, 1) := by decide +kernel
theorem dX12_paysNow_90 : decode cX12_paysNow 90 = .ok (.iaload, 1) := by decide +kernel
theorem dX12_paysNow_91 : decode cX12_paysNow 91 = .ok (.iastore, 1) := by decide +kernel
theorem dX12_paysNow_92 : decode cX12_paysNow 92 = .ok (.iconst 0, 1) := by decide +kernel
theorem dX12_paysNow_93 : decode cX12_paysNow 93 = .ok (.iload_n 2, 1) := by decide +kernel
theorem dX12_paysNow_94 : decode cX12_paysNow 94 = .ok (.aload_n 0, 1) := by decide +kernel
theorem dX12_paysNow_95 : decode cX12_paysNow 95 = .ok (.iconst 4, 1) := by decide +kernel
theorem dX12_paysNow_96 : decode cX12_paysNow 96 = .ok (.sipush 536, 3) := by decide +kernel
theorem dX12_paysNow_99 : decode cX12_paysNow 99 = .ok (.invokevirtual 273, 3) := by decide +kernel
theorem dX12_paysNow_102 : decode cX12_paysNow 102 = .ok (.invokestatic 201, 3) := by decide +kernel
theorem dX12_paysNow_105 : decode cX12_paysNow 105 = .ok (.invokestatic 276, 3) := by decide +kernel
theorem dX12_paysNow_108 : decode cX12_paysNow 108 = .ok (.ireturn, 1) := by decide +kernel
theorem dX12_growsBy_0 : decode cX12_growsBy 0 = .ok (.iload_n 2, 1) := by decide +kernel
theorem dX12_growsBy_1 : decode cX12_growsBy 1 = .ok (.ifCond .eq 12, 3) := by decide +kernel
theorem dX12_growsBy_4 : decode cX12_growsBy 4 = .ok (.aload_n 0, 1) := by decide +kernel
theorem dX12_growsBy_5 : decode cX12_growsBy 5 = .ok (.getfield 9, 3) := by decide +kernel
theorem dX12_growsBy_8 : decode cX12_growsBy 8 = .ok (.iconst 5, 1) := by decide +kernel
theorem dX12_growsBy_9 : decode cX12_growsBy 9 = .ok (.iaload, 1) := by decide +kernel
theorem dX12_growsBy_10 : decode cX12_growsBy 10 = .ok (.ifCond .ne 5, 3) := by decide +kernel
theorem dX12_growsBy_13 : decode cX12_growsBy 13 = .ok (.iconst 0, 1) := by decide +kernel
theorem dX12_growsBy_14 : decode cX12_growsBy 14 = .ok (.ireturn, 1) := by decide +kernel
theorem dX12_growsBy_15 : decode cX12_growsBy 15 = .ok (.aload_n 0, 1) := by decide +kernel
theorem dX12_growsBy_16 : decode cX12_growsBy 16 = .ok (.iload_n 2, 1) := by decide +kernel
theorem dX12_growsBy_17 : decode cX12_growsBy 17 = .ok (.iload_n 1, 1) := by decide +kernel
theorem dX12_growsBy_18 : decode cX12_growsBy 18 = .ok (.invokevirtual 270, 3) := by decide +kernel
theorem dX12_growsBy_21 : decode cX12_growsBy 21 = .ok (.iconst 0, 1) := by decide +kernel
theorem dX12_growsBy_22 : decode cX12_growsBy 22 = .ok (.sipush 999, 3) := by decide +kernel
theorem dX12_growsBy_25 : decode cX12_growsBy 25 = .ok (.aload_n 0, 1) := by decide +kernel
theorem dX12_growsBy_26 : decode cX12_growsBy 26 = .ok (.iconst 5, 1) := by decide +kernel
theorem dX12_growsBy_27 : decode cX12_growsBy 27 = .ok (.sipush 1436, 3) := by decide +kernel
theorem dX12_growsBy_30 : decode cX12_growsBy 30 = .ok (.invokevirtual 273, 3) := by decide +kernel
theorem dX12_growsBy_33 : decode cX12_growsBy 33 = .ok (.invokestatic 201, 3) := by decide +kernel
theorem dX12_growsBy_36 : decode cX12_growsBy 36 = .ok (.invokestatic 276, 3) := by decide +kernel
theorem dX12_growsBy_39 : decode cX12_growsBy 39 = .ok (.ireturn, 1) := by decide +kernel
theorem dX12_takesIt_0 : decode cX12_takesIt 0 = .ok (.aload_n 0, 1) := by decide +kernel
theorem dX12_takesIt_1 : decode cX12_takesIt 1 = .ok (.getfield 9, 3) := by decide +kernel
theorem dX12_takesIt_4 : decode cX12_takesIt 4 = .ok (.bipush 6, 2) := by decide +kernel
theorem dX12_takesIt_6 : decode cX12_takesIt 6 = .ok (.iaload, 1) := by decide +kernel
theorem dX12_takesIt_7 : decode cX12_takesIt 7 = .ok (.ifCond .ne 5, 3) := by decide +kernel
theorem dX12_takesIt_10 : decode cX12_takesIt 10 = .ok (.iconst 1, 1) := by decide +kernel
theorem dX12_takesIt_11 : decode cX12_takesIt 11 = .ok (.ireturn, 1) := by decide +kernel
theorem dX12_takesIt_12 : decode cX12_takesIt 12 = .ok (.aload_n 0, 1) := by decide +kernel
theorem dX12_takesIt_13 : decode cX12_takesIt 13 = .ok (.iload_n 2, 1) := by decide +kernel
theorem dX12_takesIt_14 : decode cX12_takesIt 14 = .ok (.iload_n 1, 1) := by decide +kernel
theorem dX12_takesIt_15 : decode cX12_takesIt 15 = .ok (.invokevirtual 270, 3) := by decide +kernel
theorem dX12_takesIt_18 : decode cX12_takesIt 18 = .ok (.aload_n 0, 1) := by decide +kernel
theorem dX12_takesIt_19 : decode cX12_takesIt 19 = .ok (.getfield 33, 3) := by decide +kernel
theorem dX12_takesIt_22 : decode cX12_takesIt 22 = .ok (.iconst 3, 1) := by decide +kernel
theorem dX12_takesIt_23 : decode cX12_takesIt 23 = .ok (.aload_n 0, 1) := by decide +kernel
theorem dX12_takesIt_24 : decode cX12_takesIt 24 = .ok (.getfield 9, 3) := by decide +kernel
theorem dX12_takesIt_27 : decode cX12_takesIt 27 = .ok (.bipush 22, 2) := by decide +kernel
theorem dX12_takesIt_29 : decode cX12_takesIt 29 = .ok (.iload_n 1, 1) := by decide +kernel
theorem dX12_takesIt_30 : decode cX12_takesIt 30 = .ok (.iadd, 1) := by decide +kernel
theorem dX12_takesIt_31 : decode cX12_takesIt 31 = .ok (.iaload, 1) := by decide +kernel
theorem dX12_takesIt_32 : decode cX12_takesIt 32 = .ok (.iastore, 1) := by decide +kernel
theorem dX12_takesIt_33 : decode cX12_takesIt 33 = .ok (.aload_n 0, 1) := by decide +kernel
theorem dX12_takesIt_34 : decode cX12_takesIt 34 = .ok (.getfield 33, 3) := by decide +kernel
theorem dX12_takesIt_37 : decode cX12_takesIt 37 = .ok (.iconst 4, 1) := by decide +kernel
theorem dX12_takesIt_38 : decode cX12_takesIt 38 = .ok (.iload_n 3, 1) := by decide +kernel
theorem dX12_takesIt_39 : decode cX12_takesIt 39 = .ok (.iastore, 1) := by decide +kernel
theorem dX12_takesIt_40 : decode cX12_takesIt 40 = .ok (.aload_n 0, 1) := by decide +kernel
theorem dX12_takesIt_41 : decode cX12_takesIt 41 = .ok (.bipush 6, 2) := by decide +kernel
theorem dX12_takesIt_43 : decode cX12_takesIt 43 = .ok (.sipush 2336, 3) := by decide +kernel
theorem dX12_takesIt_46 : decode cX12_takesIt 46 = .ok (.invokevirtual 273, 3) := by decide +kernel
theorem dX12_takesIt_49 : decode cX12_takesIt 49 = .ok (.iconst 1, 1) := by decide +kernel
theorem dX12_takesIt_50 : decode cX12_takesIt 50 = .ok (.if_icmp .ne 7, 3) := by decide +kernel
theorem dX12_takesIt_53 : decode cX12_takesIt 53 = .ok (.iconst 1, 1) := by decide +kernel
theorem dX12_takesIt_54 : decode cX12_takesIt 54 = .ok (.goto 4, 3) := by decide +kernel
theorem dX12_takesIt_57 : decode cX12_takesIt 57 = .ok (.iconst 0, 1) := by decide +kernel
theorem dX12_takesIt_58 : decode cX12_takesIt 58 = .ok (.ireturn, 1) := by decide +kernel
theorem dX12_capped_0 : decode cX12_capped 0 = .ok (.ldc_w 278, 3) := by decide +kernel
theorem dX12_capped_3 : decode cX12_capped 3 = .ok (.iload_n 0, 1) := by decide +kernel
theorem dX12_capped_4 : decode cX12_capped 4 = .ok (.invokestatic 201, 3) := by decide +kernel
theorem dX12_capped_7 : decode cX12_capped 7 = .ok (.ireturn, 1) := by decide +kernel
theorem dX12_earn_0 : decode cX12_earn 0 = .ok (.aload_n 0, 1) := by decide +kernel
theorem dX12_earn_1 : decode cX12_earn 1 = .ok (.getfield 9, 3) := by decide +kernel
theorem dX12_earn_4 : decode cX12_earn 4 = .ok (.bipush 22, 2) := by decide +kernel
theorem dX12_earn_6 : decode cX12_earn 6 = .ok (.iload_n 1, 1) := by decide +kernel
theorem dX12_earn_7 : decode cX12_earn 7 = .ok (.iadd, 1) := by decide +kernel
theorem dX12_earn_8 : decode cX12_earn 8 = .ok (.iaload, 1) := by decide +kernel
theorem dX12_earn_9 : decode cX12_earn 9 = .ok (.aload_n 0, 1) := by decide +kernel
theorem dX12_earn_10 : decode cX12_earn 10 = .ok (.getfield 9, 3) := by decide +kernel
theorem dX12_earn_13 : decode cX12_earn 13 = .ok (.bipush 8, 2) := by decide +kernel
theorem dX12_earn_15 : decode cX12_earn 15 = .ok (.iload_n 1, 1) := by decide +kernel
theorem dX12_earn_16 : decode cX12_earn 16 = .ok (.iadd, 1) := by decide +kernel
theorem dX12_earn_17 : decode cX12_earn 17 = .ok (.iaload, 1) := by decide +kernel
theorem dX12_earn_18 : decode cX12_earn 18 = .ok (.iadd, 1) := by decide +kernel
theorem dX12_earn_19 : decode cX12_earn 19 = .ok (.aload_n 0, 1) := by decide +kernel
theorem dX12_earn_20 : decode cX12_earn 20 = .ok (.getfield 9, 3) := by decide +kernel
theorem dX12_earn_23 : decode cX12_earn 23 = .ok (.bipush 15, 2) := by decide +kernel
theorem dX12_earn_25 : decode cX12_earn 25 = .ok (.iload_n 1, 1) := by decide +kernel
theorem dX12_earn_26 : decode cX12_earn 26 = .ok (.iadd, 1) := by decide +kernel
theorem dX12_earn_27 : decode cX12_earn 27 = .ok (.iaload, 1) := by decide +kernel
theorem dX12_earn_28 : decode cX12_earn 28 = .ok (.isub, 1) := by decide +kernel
theorem dX12_earn_29 : decode cX12_earn 29 = .ok (.invokestatic 279, 3) := by decide +kernel
theorem dX12_earn_32 : decode cX12_earn 32 = .ok (.istore_n 2, 1) := by decide +kernel
theorem dX12_earn_33 : decode cX12_earn 33 = .ok (.aload_n 0, 1) := by decide +kernel
theorem dX12_earn_34 : decode cX12_earn 34 = .ok (.getfield 9, 3) := by decide +kernel
theorem dX12_earn_37 : decode cX12_earn 37 = .ok (.bipush 36, 2) := by decide +kernel
theorem dX12_earn_39 : decode cX12_earn 39 = .ok (.iload_n 1, 1) := by decide +kernel
theorem dX12_earn_40 : decode cX12_earn 40 = .ok (.iadd, 1) := by decide +kernel
theorem dX12_earn_41 : decode cX12_earn 41 = .ok (.aload_n 0, 1) := by decide +kernel
theorem dX12_earn_42 : decode cX12_earn 42 = .ok (.getfield 9, 3) := by decide +kernel
theorem dX12_earn_45 : decode cX12_earn 45 = .ok (.bipush 36, 2) := by decide +kernel
theorem dX12_earn_47 : decode cX12_earn 47 = .ok (.iload_n 1, 1) := by decide +kernel
theorem dX12_earn_48 : decode cX12_earn 48 = .ok (.iadd, 1) := by decide +kernel
theorem dX12_earn_49 : decode cX12_earn 49 = .ok (.iaload, 1) := by decide +kernel
theorem dX12_earn_50 : decode cX12_earn 50 = .ok (.iconst 0, 1) := by decide +kernel
theorem dX12_earn_51 : decode cX12_earn 51 = .ok (.iload_n 2, 1) := by decide +kernel
theorem dX12_earn_52 : decode cX12_earn 52 = .ok (.ineg, 1) := by decide +kernel
theorem dX12_earn_53 : decode cX12_earn 53 = .ok (.invokestatic 276, 3) := by decide +kernel
theorem dX12_earn_56 : decode cX12_earn 56 = .ok (.iadd, 1) := by decide +kernel
theorem dX12_earn_57 : decode cX12_earn 57 = .ok (.invokestatic 279, 3) := by decide +kernel
theorem dX12_earn_60 : decode cX12_earn 60 = .ok (.iastore, 1) := by decide +kernel
theorem dX12_earn_61 : decode cX12_earn 61 = .ok (.aload_n 0, 1) := by decide +kernel
theorem dX12_earn_62 : decode cX12_earn 62 = .ok (.getfield 9, 3) := by decide +kernel
theorem dX12_earn_65 : decode cX12_earn 65 = .ok (.bipush 22, 2) := by decide +kernel
theorem dX12_earn_67 : decode cX12_earn 67 = .ok (.iload_n 1, 1) := by decide +kernel
theorem dX12_earn_68 : decode cX12_earn 68 = .ok (.iadd, 1) := by decide +kernel
theorem dX12_earn_69 : decode cX12_earn 69 = .ok (.iconst 0, 1) := by decide +kernel
theorem dX12_earn_70 : decode cX12_earn 70 = .ok (.iload_n 2, 1) := by decide +kernel
theorem dX12_earn_71 : decode cX12_earn 71 = .ok (.invokestatic 276, 3) := by decide +kernel
theorem dX12_earn_74 : decode cX12_earn 74 = .ok (.iastore, 1) := by decide +kernel
theorem dX12_earn_75 : decode cX12_earn 75 = .ok (.aload_n 0, 1) := by decide +kernel
theorem dX12_earn_76 : decode cX12_earn 76 = .ok (.iload_n 1, 1) := by decide +kernel
theorem dX12_earn_77 : decode cX12_earn 77 = .ok (.invokevirtual 282, 3) := by decide +kernel
theorem dX12_earn_80 : decode cX12_earn 80 = .ok (.istore_n 3, 1) := by decide +kernel
theorem dX12_earn_81 : decode cX12_earn 81 = .ok (.aload_n 0, 1) := by decide +kernel
theorem dX12_earn_82 : decode cX12_earn 82 = .ok (.getfield 9, 3) := by decide +kernel
theorem dX12_earn_85 : decode cX12_earn 85 = .ok (.bipush 22, 2) := by decide +kernel
theorem dX12_earn_87 : decode cX12_earn 87 = .ok (.iload_n 1, 1) := by decide +kernel
theorem dX12_earn_88 : decode cX12_earn 88 = .ok (.iadd, 1) := by decide +kernel
theorem dX12_earn_89 : decode cX12_earn 89 = .ok (.dup2, 1) := by decide +kernel
theorem dX12_earn_90 : decode cX12_earn 90 = .ok (.iaload, 1) := by decide +kernel
theorem dX12_earn_91 : decode cX12_earn 91 = .ok (.iload_n 3, 1) := by decide +kernel
theorem dX12_earn_92 : decode cX12_earn 92 = .ok (.isub, 1) := by decide +kernel
theorem dX12_earn_93 : decode cX12_earn 93 = .ok (.iastore, 1) := by decide +kernel
theorem dX12_earn_94 : decode cX12_earn 94 = .ok (.aload_n 0, 1) := by decide +kernel
theorem dX12_earn_95 : decode cX12_earn 95 = .ok (.getfield 9, 3) := by decide +kernel
theorem dX12_earn_98 : decode cX12_earn 98 = .ok (.bipush 36, 2) := by decide +kernel
theorem dX12_earn_100 : decode cX12_earn 100 = .ok (.iload_n 1, 1) := by decide +kernel
theorem dX12_earn_101 : decode cX12_earn 101 = .ok (.iadd, 1) := by decide +kernel
theorem dX12_earn_102 : decode cX12_earn 102 = .ok (.dup2, 1) := by decide +kernel
theorem dX12_earn_103 : decode cX12_earn 103 = .ok (.iaload, 1) := by decide +kernel
theorem dX12_earn_104 : decode cX12_earn 104 = .ok (.iload_n 3, 1) := by decide +kernel
theorem dX12_earn_105 : decode cX12_earn 105 = .ok (.isub, 1) := by decide +kernel
theorem dX12_earn_106 : decode cX12_earn 106 = .ok (.iastore, 1) := by decide +kernel
theorem dX12_earn_107 : decode cX12_earn 107 = .ok (.aload_n 0, 1) := by decide +kernel
theorem dX12_earn_108 : decode cX12_earn 108 = .ok (.dup, 1) := by decide +kernel
theorem dX12_earn_109 : decode cX12_earn 109 = .ok (.getfield 285, 3) := by decide +kernel
theorem dX12_earn_112 : decode cX12_earn 112 = .ok (.iload_n 3, 1) := by decide +kernel
theorem dX12_earn_113 : decode cX12_earn 113 = .ok (.iadd, 1) := by decide +kernel
theorem dX12_earn_114 : decode cX12_earn 114 = .ok (.putfield 285, 3) := by decide +kernel
theorem dX12_earn_117 : decode cX12_earn 117 = .ok (.return_, 1) := by decide +kernel
theorem dX12_quarter_0 : decode cX12_quarter 0 = .ok (.aload_n 0, 1) := by decide +kernel
theorem dX12_quarter_1 : decode cX12_quarter 1 = .ok (.iconst 0, 1) := by decide +kernel
theorem dX12_quarter_2 : decode cX12_quarter 2 = .ok (.putfield 285, 3) := by decide +kernel
theorem dX12_quarter_5 : decode cX12_quarter 5 = .ok (.aload_n 0, 1) := by decide +kernel
theorem dX12_quarter_6 : decode cX12_quarter 6 = .ok (.iconst 0, 1) := by decide +kernel
theorem dX12_quarter_7 : decode cX12_quarter 7 = .ok (.putfield 288, 3) := by decide +kernel
theorem dX12_quarter_10 : decode cX12_quarter 10 = .ok (.iconst 0, 1) := by decide +kernel
theorem dX12_quarter_11 : decode cX12_quarter 11 = .ok (.istore_n 1, 1) := by decide +kernel
theorem dX12_quarter_12 : decode cX12_quarter 12 = .ok (.iload_n 1, 1) := by decide +kernel
theorem dX12_quarter_13 : decode cX12_quarter 13 = .ok (.aload_n 0, 1) := by decide +kernel
theorem dX12_quarter_14 : decode cX12_quarter 14 = .ok (.invokevirtual 249, 3) := by decide +kernel
theorem dX12_quarter_17 : decode cX12_quarter 17 = .ok (.if_icmp .ge 80, 3) := by decide +kernel
theorem dX12_quarter_20 : decode cX12_quarter 20 = .ok (.aload_n 0, 1) := by decide +kernel
theorem dX12_quarter_21 : decode cX12_quarter 21 = .ok (.iload_n 1, 1) := by decide +kernel
theorem dX12_quarter_22 : decode cX12_quarter 22 = .ok (.invokevirtual 291, 3) := by decide +kernel
theorem dX12_quarter_25 : decode cX12_quarter 25 = .ok (.ifCond .ne 8, 3) := by decide +kernel
theorem dX12_quarter_28 : decode cX12_quarter 28 = .ok (.aload_n 0, 1) := by decide +kernel
theorem dX12_quarter_29 : decode cX12_quarter 29 = .ok (.iload_n 1, 1) := by decide +kernel
theorem dX12_quarter_30 : decode cX12_quarter 30 = .ok (.invokevirtual 294, 3) := by decide +kernel
theorem dX12_quarter_33 : decode cX12_quarter 33 = .ok (.aload_n 0, 1) := by decide +kernel
theorem dX12_quarter_34 : decode cX12_quarter 34 = .ok (.getfield 9, 3) := by decide +kernel
theorem dX12_quarter_37 : decode cX12_quarter 37 = .ok (.bipush 36, 2) := by decide +kernel
theorem dX12_quarter_39 : decode cX12_quarter 39 = .ok (.iload_n 1, 1) := by decide +kernel
theorem dX12_quarter_40 : decode cX12_quarter 40 = .ok (.iadd, 1) := by decide +kernel
theorem dX12_quarter_41 : decode cX12_quarter 41 = .ok (.aload_n 0, 1) := by decide +kernel
theorem dX12_quarter_42 : decode cX12_quarter 42 = .ok (.getfield 9, 3) := by decide +kernel
theorem dX12_quarter_45 : decode cX12_quarter 45 = .ok (.bipush 36, 2) := by decide +kernel
theorem dX12_quarter_47 : decode cX12_quarter 47 = .ok (.iload_n 1, 1) := by decide +kernel
theorem dX12_quarter_48 : decode cX12_quarter 48 = .ok (.iadd, 1) := by decide +kernel
theorem dX12_quarter_49 : decode cX12_quarter 49 = .ok (.iaload, 1) := by decide +kernel
theorem dX12_quarter_50 : decode cX12_quarter 50 = .ok (.aload_n 0, 1) := by decide +kernel
theorem dX12_quarter_51 : decode cX12_quarter 51 = .ok (.iload_n 1, 1) := by decide +kernel
theorem dX12_quarter_52 : decode cX12_quarter 52 = .ok (.aload_n 0, 1) := by decide +kernel
theorem dX12_quarter_53 : decode cX12_quarter 53 = .ok (.getfield 9, 3) := by decide +kernel
theorem dX12_quarter_56 : decode cX12_quarter 56 = .ok (.bipush 36, 2) := by decide +kernel
theorem dX12_quarter_58 : decode cX12_quarter 58 = .ok (.iload_n 1, 1) := by decide +kernel
theorem dX12_quarter_59 : decode cX12_quarter 59 = .ok (.iadd, 1) := by decide +kernel
theorem dX12_quarter_60 : decode cX12_quarter 60 = .ok (.iaload, 1) := by decide +kernel
theorem dX12_quarter_61 : decode cX12_quarter 61 = .ok (.invokevirtual 297, 3) := by decide +kernel
theorem dX12_quarter_64 : decode cX12_quarter 64 = .ok (.iadd, 1) := by decide +kernel
theorem dX12_quarter_65 : decode cX12_quarter 65 = .ok (.invokestatic 279, 3) := by decide +kernel
theorem dX12_quarter_68 : decode cX12_quarter 68 = .ok (.iastore, 1) := by decide +kernel
theorem dX12_quarter_69 : decode cX12_quarter 69 = .ok (.aload_n 0, 1) := by decide +kernel
theorem dX12_quarter_70 : decode cX12_quarter 70 = .ok (.getfield 39, 3) := by decide +kernel
theorem dX12_quarter_73 : decode cX12_quarter 73 = .ok (.iload_n 1, 1) := by decide +kernel
theorem dX12_quarter_74 : decode cX12_quarter 74 = .ok (.aload_n 0, 1) := by decide +kernel
theorem dX12_quarter_75 : decode cX12_quarter 75 = .ok (.getfield 9, 3) := by decide +kernel
theorem dX12_quarter_78 : decode cX12_quarter 78 = .ok (.bipush 36, 2) := by decide +kernel
theorem dX12_quarter_80 : decode cX12_quarter 80 = .ok (.iload_n 1, 1) := by decide +kernel
theorem dX12_quarter_81 : decode cX12_quarter 81 = .ok (.iadd, 1) := by decide +kernel
theorem dX12_quarter_82 : decode cX12_quarter 82 = .ok (.iaload, 1) := by decide +kernel
theorem dX12_quarter_83 : decode cX12_quarter 83 = .ok (.iastore, 1) := by decide +kernel
theorem dX12_quarter_84 : decode cX12_quarter 84 = .ok (.aload_n 0, 1) := by decide +kernel
theorem dX12_quarter_85 : decode cX12_quarter 85 = .ok (.getfield 36, 3) := by decide +kernel
theorem dX12_quarter_88 : decode cX12_quarter 88 = .ok (.iload_n 1, 1) := by decide +kernel
theorem dX12_quarter_89 : decode cX12_quarter 89 = .ok (.iconst 0, 1) := by decide +kernel
theorem dX12_quarter_90 : decode cX12_quarter 90 = .ok (.iastore, 1) := by decide +kernel
theorem dX12_quarter_91 : decode cX12_quarter 91 = .ok (.iinc 1 1, 3) := by decide +kernel
theorem dX12_quarter_94 : decode cX12_quarter 94 = .ok (.goto (-82), 3) := by decide +kernel
theorem dX12_quarter_97 : decode cX12_quarter 97 = .ok (.iconst 0, 1) := by decide +kernel
theorem dX12_quarter_98 : decode cX12_quarter 98 = .ok (.istore_n 1, 1) := by decide +kernel
theorem dX12_quarter_99 : decode cX12_quarter 99 = .ok (.iload_n 1, 1) := by decide +kernel
theorem dX12_quarter_100 : decode cX12_quarter 100 = .ok (.aload_n 0, 1) := by decide +kernel
theorem dX12_quarter_101 : decode cX12_quarter 101 = .ok (.invokevirtual 249, 3) := by decide +kernel
theorem dX12_quarter_104 : decode cX12_quarter 104 = .ok (.if_icmp .ge 23, 3) := by decide +kernel
theorem dX12_quarter_107 : decode cX12_quarter 107 = .ok (.aload_n 0, 1) := by decide +kernel
theorem dX12_quarter_108 : decode cX12_quarter 108 = .ok (.getfield 39, 3) := by decide +kernel
theorem dX12_quarter_111 : decode cX12_quarter 111 = .ok (.iload_n 1, 1) := by decide +kernel
theorem dX12_quarter_112 : decode cX12_quarter 112 = .ok (.iaload, 1) := by decide +kernel
theorem dX12_quarter_113 : decode cX12_quarter 113 = .ok (.ifCond .le 8, 3) := by decide +kernel
theorem dX12_quarter_116 : decode cX12_quarter 116 = .ok (.aload_n 0, 1) := by decide +kernel
theorem dX12_quarter_117 : decode cX12_quarter 117 = .ok (.iload_n 1, 1) := by decide +kernel
theorem dX12_quarter_118 : decode cX12_quarter 118 = .ok (.invokevirtual 300, 3) := by decide +kernel
theorem dX12_quarter_121 : decode cX12_quarter 121 = .ok (.iinc 1 1, 3) := by decide +kernel
theorem dX12_quarter_124 : decode cX12_quarter 124 = .ok (.goto (-25), 3) := by decide +kernel
theorem dX12_quarter_127 : decode cX12_quarter 127 = .ok (.iconst 0, 1) := by decide +kernel
theorem dX12_quarter_128 : decode cX12_quarter 128 = .ok (.istore_n 1, 1) := by decide +kernel
theorem dX12_quarter_129 : decode cX12_quarter 129 = .ok (.iload_n 1, 1) := by decide +kernel
theorem dX12_quarter_130 : decode cX12_quarter 130 = .ok (.aload_n 0, 1) := by decide +kernel
theorem dX12_quarter_131 : decode cX12_quarter 131 = .ok (.invokevirtual 249, 3) := by decide +kernel
theorem dX12_quarter_134 : decode cX12_quarter 134 = .ok (.if_icmp .ge 92, 3) := by decide +kernel
theorem dX12_quarter_137 : decode cX12_quarter 137 = .ok (.aload_n 0, 1) := by decide +kernel
theorem dX12_quarter_138 : decode cX12_quarter 138 = .ok (.getfield 9, 3) := by decide +kernel
theorem dX12_quarter_141 : decode cX12_quarter 141 = .ok (.bipush 36, 2) := by decide +kernel
theorem dX12_quarter_143 : decode cX12_quarter 143 = .ok (.iload_n 1, 1) := by decide +kernel
theorem dX12_quarter_144 : decode cX12_quarter 144 = .ok (.iadd, 1) := by decide +kernel
theorem dX12_quarter_145 : decode cX12_quarter 145 = .ok (.aload_n 0, 1) := by decide +kernel
theorem dX12_quarter_146 : decode cX12_quarter 146 = .ok (.getfield 9, 3) := by decide +kernel
theorem dX12_quarter_149 : decode cX12_quarter 149 = .ok (.bipush 36, 2) := by decide +kernel
theorem dX12_quarter_151 : decode cX12_quarter 151 = .ok (.iload_n 1, 1) := by decide +kernel
theorem dX12_quarter_152 : decode cX12_quarter 152 = .ok (.iadd, 1) := by decide +kernel
theorem dX12_quarter_153 : decode cX12_quarter 153 = .ok (.iaload, 1) := by decide +kernel
theorem dX12_quarter_154 : decode cX12_quarter 154 = .ok (.aload_n 0, 1) := by decide +kernel
theorem dX12_quarter_155 : decode cX12_quarter 155 = .ok (.getfield 36, 3) := by decide +kernel
theorem dX12_quarter_158 : decode cX12_quarter 158 = .ok (.iload_n 1, 1) := by decide +kernel
theorem dX12_quarter_159 : decode cX12_quarter 159 = .ok (.iaload, 1) := by decide +kernel
theorem dX12_quarter_160 : decode cX12_quarter 160 = .ok (.iadd, 1) := by decide +kernel
theorem dX12_quarter_161 : decode cX12_quarter 161 = .ok (.invokestatic 279, 3) := by decide +kernel
theorem dX12_quarter_164 : decode cX12_quarter 164 = .ok (.iastore, 1) := by decide +kernel
theorem dX12_quarter_165 : decode cX12_quarter 165 = .ok (.aload_n 0, 1) := by decide +kernel
theorem dX12_quarter_166 : decode cX12_quarter 166 = .ok (.iload_n 1, 1) := by decide +kernel
theorem dX12_quarter_167 : decode cX12_quarter 167 = .ok (.invokevirtual 291, 3) := by decide +kernel
theorem dX12_quarter_170 : decode cX12_quarter 170 = .ok (.ifCond .ne 26, 3) := by decide +kernel
theorem dX12_quarter_173 : decode cX12_quarter 173 = .ok (.aload_n 0, 1) := by decide +kernel
theorem dX12_quarter_174 : decode cX12_quarter 174 = .ok (.getfield 9, 3) := by decide +kernel
theorem dX12_quarter_177 : decode cX12_quarter 177 = .ok (.bipush 36, 2) := by decide +kernel
theorem dX12_quarter_179 : decode cX12_quarter 179 = .ok (.iload_n 1, 1) := by decide +kernel
theorem dX12_quarter_180 : decode cX12_quarter 180 = .ok (.iadd, 1) := by decide +kernel
theorem dX12_quarter_181 : decode cX12_quarter 181 = .ok (.iaload, 1) := by decide +kernel
theorem dX12_quarter_182 : decode cX12_quarter 182 = .ok (.aload_n 0, 1) := by decide +kernel
theorem dX12_quarter_183 : decode cX12_quarter 183 = .ok (.getfield 9, 3) := by decide +kernel
theorem dX12_quarter_186 : decode cX12_quarter 186 = .ok (.iconst 3, 1) := by decide +kernel
theorem dX12_quarter_187 : decode cX12_quarter 187 = .ok (.iaload, 1) := by decide +kernel
theorem dX12_quarter_188 : decode cX12_quarter 188 = .ok (.if_icmp .le 8, 3) := by decide +kernel
theorem dX12_quarter_191 : decode cX12_quarter 191 = .ok (.aload_n 0, 1) := by decide +kernel
theorem dX12_quarter_192 : decode cX12_quarter 192 = .ok (.iload_n 1, 1) := by decide +kernel
theorem dX12_quarter_193 : decode cX12_quarter 193 = .ok (.invokevirtual 303, 3) := by decide +kernel
theorem dX12_quarter_196 : decode cX12_quarter 196 = .ok (.aload_n 0, 1) := by decide +kernel
theorem dX12_quarter_197 : decode cX12_quarter 197 = .ok (.getfield 9, 3) := by decide +kernel
theorem dX12_quarter_200 : decode cX12_quarter 200 = .ok (.bipush 43, 2) := by decide +kernel
theorem dX12_quarter_202 : decode cX12_quarter 202 = .ok (.iload_n 1, 1) := by decide +kernel
theorem dX12_quarter_203 : decode cX12_quarter 203 = .ok (.iadd, 1) := by decide +kernel
theorem dX12_quarter_204 : decode cX12_quarter 204 = .ok (.iconst 0, 1) := by decide +kernel
theorem dX12_quarter_205 : decode cX12_quarter 205 = .ok (.aload_n 0, 1) := by decide +kernel
theorem dX12_quarter_206 : decode cX12_quarter 206 = .ok (.getfield 9, 3) := by decide +kernel
theorem dX12_quarter_209 : decode cX12_quarter 209 = .ok (.bipush 43, 2) := by decide +kernel
theorem dX12_quarter_211 : decode cX12_quarter 211 = .ok (.iload_n 1, 1) := by decide +kernel
theorem dX12_quarter_212 : decode cX12_quarter 212 = .ok (.iadd, 1) := by decide +kernel
theorem dX12_quarter_213 : decode cX12_quarter 213 = .ok (.iaload, 1) := by decide +kernel
theorem dX12_quarter_214 : decode cX12_quarter 214 = .ok (.iconst 1, 1) := by decide +kernel
theorem dX12_quarter_215 : decode cX12_quarter 215 = .ok (.isub, 1) := by decide +kernel
theorem dX12_quarter_216 : decode cX12_quarter 216 = .ok (.invokestatic 276, 3) := by decide +kernel
theorem dX12_quarter_219 : decode cX12_quarter 219 = .ok (.iastore, 1) := by decide +kernel
theorem dX12_quarter_220 : decode cX12_quarter 220 = .ok (.iinc 1 1, 3) := by decide +kernel
theorem dX12_quarter_223 : decode cX12_quarter 223 = .ok (.goto (-94), 3) := by decide +kernel
theorem dX12_quarter_226 : decode cX12_quarter 226 = .ok (.aload_n 0, 1) := by decide +kernel
theorem dX12_quarter_227 : decode cX12_quarter 227 = .ok (.getfield 9, 3) := by decide +kernel
theorem dX12_quarter_230 : decode cX12_quarter 230 = .ok (.bipush 51, 2) := by decide +kernel
theorem dX12_quarter_232 : decode cX12_quarter 232 = .ok (.dup2, 1) := by decide +kernel
theorem dX12_quarter_233 : decode cX12_quarter 233 = .ok (.iaload, 1) := by decide +kernel
theorem dX12_quarter_234 : decode cX12_quarter 234 = .ok (.iconst 1, 1) := by decide +kernel
theorem dX12_quarter_235 : decode cX12_quarter 235 = .ok (.iadd, 1) := by decide +kernel
theorem dX12_quarter_236 : decode cX12_quarter 236 = .ok (.iastore, 1) := by decide +kernel
theorem dX12_quarter_237 : decode cX12_quarter 237 = .ok (.return_, 1) := by decide +kernel
theorem dX12_ruins_0 : decode cX12_ruins 0 = .ok (.aload_n 0, 1) := by decide +kernel
theorem dX12_ruins_1 : decode cX12_ruins 1 = .ok (.getfield 9, 3) := by decide +kernel
theorem dX12_ruins_4 : decode cX12_ruins 4 = .ok (.bipush 29, 2) := by decide +kernel
theorem dX12_ruins_6 : decode cX12_ruins 6 = .ok (.iload_n 1, 1) := by decide +kernel
theorem dX12_ruins_7 : decode cX12_ruins 7 = .ok (.iadd, 1) := by decide +kernel
theorem dX12_ruins_8 : decode cX12_ruins 8 = .ok (.iconst 1, 1) := by decide +kernel
theorem dX12_ruins_9 : decode cX12_ruins 9 = .ok (.iastore, 1) := by decide +kernel
theorem dX12_ruins_10 : decode cX12_ruins 10 = .ok (.aload_n 0, 1) := by decide +kernel
theorem dX12_ruins_11 : decode cX12_ruins 11 = .ok (.getfield 9, 3) := by decide +kernel
theorem dX12_ruins_14 : decode cX12_ruins 14 = .ok (.bipush 22, 2) := by decide +kernel
theorem dX12_ruins_16 : decode cX12_ruins 16 = .ok (.iload_n 1, 1) := by decide +kernel
theorem dX12_ruins_17 : decode cX12_ruins 17 = .ok (.iadd, 1) := by decide +kernel
theorem dX12_ruins_18 : decode cX12_ruins 18 = .ok (.iconst 0, 1) := by decide +kernel
theorem dX12_ruins_19 : decode cX12_ruins 19 = .ok (.iastore, 1) := by decide +kernel
theorem dX12_ruins_20 : decode cX12_ruins 20 = .ok (.aload_n 0, 1) := by decide +kernel
theorem dX12_ruins_21 : decode cX12_ruins 21 = .ok (.dup, 1) := by decide +kernel
theorem dX12_ruins_22 : decode cX12_ruins 22 = .ok (.getfield 288, 3) := by decide +kernel
theorem dX12_ruins_25 : decode cX12_ruins 25 = .ok (.iconst 1, 1) := by decide +kernel
theorem dX12_ruins_26 : decode cX12_ruins 26 = .ok (.iadd, 1) := by decide +kernel
theorem dX12_ruins_27 : decode cX12_ruins 27 = .ok (.putfield 288, 3) := by decide +kernel
theorem dX12_ruins_30 : decode cX12_ruins 30 = .ok (.return_, 1) := by decide +kernel
theorem dX12_sends_0 : decode cX12_sends 0 = .ok (.aload_n 0, 1) := by decide +kernel
theorem dX12_sends_1 : decode cX12_sends 1 = .ok (.iload_n 1, 1) := by decide +kernel
theorem dX12_sends_2 : decode cX12_sends 2 = .ok (.invokevirtual 306, 3) := by decide +kernel
theorem dX12_sends_5 : decode cX12_sends 5 = .ok (.istore_n 2, 1) := by decide +kernel
theorem dX12_sends_6 : decode cX12_sends 6 = .ok (.iload_n 2, 1) := by decide +kernel
theorem dX12_sends_7 : decode cX12_sends 7 = .ok (.iconst (-1), 1) := by decide +kernel
theorem dX12_sends_8 : decode cX12_sends 8 = .ok (.if_icmp .eq 36, 3) := by decide +kernel
theorem dX12_sends_11 : decode cX12_sends 11 = .ok (.aload_n 0, 1) := by decide +kernel
theorem dX12_sends_12 : decode cX12_sends 12 = .ok (.getfield 9, 3) := by decide +kernel
theorem dX12_sends_15 : decode cX12_sends 15 = .ok (.bipush 43, 2) := by decide +kernel
theorem dX12_sends_17 : decode cX12_sends 17 = .ok (.iload_n 2, 1) := by decide +kernel
theorem dX12_sends_18 : decode cX12_sends 18 = .ok (.iadd, 1) := by decide +kernel
theorem dX12_sends_19 : decode cX12_sends 19 = .ok (.iaload, 1) := by decide +kernel
theorem dX12_sends_20 : decode cX12_sends 20 = .ok (.ifCond .gt 23, 3) := by decide +kernel
theorem dX12_sends_23 : decode cX12_sends 23 = .ok (.aload_n 0, 1) := by decide +kernel
theorem dX12_sends_24 : decode cX12_sends 24 = .ok (.iload_n 2, 1) := by decide +kernel
theorem dX12_sends_25 : decode cX12_sends 25 = .ok (.aload_n 0, 1) := by decide +kernel
theorem dX12_sends_26 : decode cX12_sends 26 = .ok (.getfield 39, 3) := by decide +kernel
theorem dX12_sends_29 : decode cX12_sends 29 = .ok (.iload_n 1, 1) := by decide +kernel
theorem dX12_sends_30 : decode cX12_sends 30 = .ok (.iaload, 1) := by decide +kernel
theorem dX12_sends_31 : decode cX12_sends 31 = .ok (.aload_n 0, 1) := by decide +kernel
theorem dX12_sends_32 : decode cX12_sends 32 = .ok (.getfield 39, 3) := by decide +kernel
theorem dX12_sends_35 : decode cX12_sends 35 = .ok (.iload_n 2, 1) := by decide +kernel
theorem dX12_sends_36 : decode cX12_sends 36 = .ok (.iaload, 1) := by decide +kernel
theorem dX12_sends_37 : decode cX12_sends 37 = .ok (.invokevirtual 309, 3) := by decide +kernel
theorem dX12_sends_40 : decode cX12_sends 40 = .ok (.ifCond .ne 4, 3) := by decide +kernel
theorem dX12_sends_43 : decode cX12_sends 43 = .ok (.return_, 1) := by decide +kernel
theorem dX12_sends_44 : decode cX12_sends 44 = .ok (.aload_n 0, 1) := by decide +kernel
theorem dX12_sends_45 : decode cX12_sends 45 = .ok (.getfield 9, 3) := by decide +kernel
theorem dX12_sends_48 : decode cX12_sends 48 = .ok (.bipush 36, 2) := by decide +kernel
theorem dX12_sends_50 : decode cX12_sends 50 = .ok (.iload_n 1, 1) := by decide +kernel
theorem dX12_sends_51 : decode cX12_sends 51 = .ok (.iadd, 1) := by decide +kernel
theorem dX12_sends_52 : decode cX12_sends 52 = .ok (.iconst 0, 1) := by decide +kernel
theorem dX12_sends_53 : decode cX12_sends 53 = .ok (.iastore, 1) := by decide +kernel
theorem dX12_sends_54 : decode cX12_sends 54 = .ok (.iload_n 2, 1) := by decide +kernel
theorem dX12_sends_55 : decode cX12_sends 55 = .ok (.iconst (-1), 1) := by decide +kernel
theorem dX12_sends_56 : decode cX12_sends 56 = .ok (.if_icmp .ne 30, 3) := by decide +kernel
theorem dX12_sends_59 : decode cX12_sends 59 = .ok (.aload_n 0, 1) := by decide +kernel
theorem dX12_sends_60 : decode cX12_sends 60 = .ok (.getfield 9, 3) := by decide +kernel
theorem dX12_sends_63 : decode cX12_sends 63 = .ok (.bipush 50, 2) := by decide +kernel
theorem dX12_sends_65 : decode cX12_sends 65 = .ok (.aload_n 0, 1) := by decide +kernel
theorem dX12_sends_66 : decode cX12_sends 66 = .ok (.getfield 9, 3) := by decide +kernel
theorem dX12_sends_69 : decode cX12_sends 69 = .ok (.bipush 50, 2) := by decide +kernel
theorem dX12_sends_71 : decode cX12_sends 71 = .ok (.iaload, 1) := by decide +kernel
theorem dX12_sends_72 : decode cX12_sends 72 = .ok (.aload_n 0, 1) := by decide +kernel
theorem dX12_sends_73 : decode cX12_sends 73 = .ok (.getfield 39, 3) := by decide +kernel
theorem dX12_sends_76 : decode cX12_sends 76 = .ok (.iload_n 1, 1) := by decide +kernel
theorem dX12_sends_77 : decode cX12_sends 77 = .ok (.iaload, 1) := by decide +kernel
theorem dX12_sends_78 : decode cX12_sends 78 = .ok (.iadd, 1) := by decide +kernel
theorem dX12_sends_79 : decode cX12_sends 79 = .ok (.invokestatic 279, 3) := by decide +kernel
theorem dX12_sends_82 : decode cX12_sends 82 = .ok (.iastore, 1) := by decide +kernel
theorem dX12_sends_83 : decode cX12_sends 83 = .ok (.goto 15, 3) := by decide +kernel
theorem dX12_sends_86 : decode cX12_sends 86 = .ok (.aload_n 0, 1) := by decide +kernel
theorem dX12_sends_87 : decode cX12_sends 87 = .ok (.getfield 36, 3) := by decide +kernel
theorem dX12_sends_90 : decode cX12_sends 90 = .ok (.iload_n 2, 1) := by decide +kernel
theorem dX12_sends_91 : decode cX12_sends 91 = .ok (.aload_n 0, 1) := by decide +kernel
theorem dX12_sends_92 : decode cX12_sends 92 = .ok (.getfield 39, 3) := by decide +kernel
theorem dX12_sends_95 : decode cX12_sends 95 = .ok (.iload_n 1, 1) := by decide +kernel
theorem dX12_sends_96 : decode cX12_sends 96 = .ok (.iaload, 1) := by decide +kernel
theorem dX12_sends_97 : decode cX12_sends 97 = .ok (.iastore, 1) := by decide +kernel
theorem dX12_sends_98 : decode cX12_sends 98 = .ok (.return_, 1) := by decide +kernel
theorem dX12_house_0 : decode cX12_house 0 = .ok (.aload_n 0, 1) := by decide +kernel
theorem dX12_house_1 : decode cX12_house 1 = .ok (.aload_n 0, 1) := by decide +kernel
theorem dX12_house_2 : decode cX12_house 2 = .ok (.iload_n 1, 1) := by decide +kernel
theorem dX12_house_3 : decode cX12_house 3 = .ok (.i2l, 1) := by decide +kernel
theorem dX12_house_4 : decode cX12_house 4 = .ok (.invokevirtual 313, 3) := by decide +kernel
theorem dX12_house_7 : decode cX12_house 7 = .ok (.ifCond .ne 7, 3) := by decide +kernel
theorem dX12_house_10 : decode cX12_house 10 = .ok (.iconst 1, 1) := by decide +kernel
theorem dX12_house_11 : decode cX12_house 11 = .ok (.goto 20, 3) := by decide +kernel
theorem dX12_house_14 : decode cX12_house 14 = .ok (.iload_n 2, 1) := by decide +kernel
theorem dX12_house_15 : decode cX12_house 15 = .ok (.i2l, 1) := by decide +kernel
theorem dX12_house_16 : decode cX12_house 16 = .ok (.lconst 0, 1) := by decide +kernel
theorem dX12_house_17 : decode cX12_house 17 = .ok (.ldc2_w 317, 3) := by decide +kernel
theorem dX12_house_20 : decode cX12_house 20 = .ok (.invokestatic 128, 3) := by decide +kernel
theorem dX12_house_23 : decode cX12_house 23 = .ok (.ifCond .eq 7, 3) := by decide +kernel
theorem dX12_house_26 : decode cX12_house 26 = .ok (.iconst 0, 1) := by decide +kernel
theorem dX12_house_27 : decode cX12_house 27 = .ok (.goto 4, 3) := by decide +kernel
theorem dX12_house_30 : decode cX12_house 30 = .ok (.iconst 2, 1) := by decide +kernel
theorem dX12_house_31 : decode cX12_house 31 = .ok (.putfield 67, 3) := by decide +kernel
theorem dX12_house_34 : decode cX12_house 34 = .ok (.aload_n 0, 1) := by decide +kernel
theorem dX12_house_35 : decode cX12_house 35 = .ok (.getfield 67, 3) := by decide +kernel
theorem dX12_house_38 : decode cX12_house 38 = .ok (.ifCond .le 5, 3) := by decide +kernel
theorem dX12_house_41 : decode cX12_house 41 = .ok (.iconst 0, 1) := by decide +kernel
theorem dX12_house_42 : decode cX12_house 42 = .ok (.ireturn, 1) := by decide +kernel
theorem dX12_house_43 : decode cX12_house 43 = .ok (.iload_n 2, 1) := by decide +kernel
theorem dX12_house_44 : decode cX12_house 44 = .ok (.ifCond .ne 15, 3) := by decide +kernel
theorem dX12_house_47 : decode cX12_house 47 = .ok (.aload_n 0, 1) := by decide +kernel
theorem dX12_house_48 : decode cX12_house 48 = .ok (.getfield 9, 3) := by decide +kernel
theorem dX12_house_51 : decode cX12_house 51 = .ok (.bipush 36, 2) := by decide +kernel
theorem dX12_house_53 : decode cX12_house 53 = .ok (.iload_n 1, 1) := by decide +kernel
theorem dX12_house_54 : decode cX12_house 54 = .ok (.iadd, 1) := by decide +kernel
theorem dX12_house_55 : decode cX12_house 55 = .ok (.iaload, 1) := by decide +kernel
theorem dX12_house_56 : decode cX12_house 56 = .ok (.goto 25, 3) := by decide +kernel
theorem dX12_house_59 : decode cX12_house 59 = .ok (.iload_n 2, 1) := by decide +kernel
theorem dX12_house_60 : decode cX12_house 60 = .ok (.iconst 1, 1) := by decide +kernel
theorem dX12_house_61 : decode cX12_house 61 = .ok (.if_icmp .ne 15, 3) := by decide +kernel
theorem dX12_house_64 : decode cX12_house 64 = .ok (.aload_n 0, 1) := by decide +kernel
theorem dX12_house_65 : decode cX12_house 65 = .ok (.getfield 9, 3) := by decide +kernel
theorem dX12_house_68 : decode cX12_house 68 = .ok (.bipush 43, 2) := by decide +kernel
theorem dX12_house_70 : decode cX12_house 70 = .ok (.iload_n 1, 1) := by decide +kernel
theorem dX12_house_71 : decode cX12_house 71 = .ok (.iadd, 1) := by decide +kernel
theorem dX12_house_72 : decode cX12_house 72 = .ok (.iaload, 1) := by decide +kernel
theorem dX12_house_73 : decode cX12_house 73 = .ok (.goto 8, 3) := by decide +kernel
theorem dX12_house_76 : decode cX12_house 76 = .ok (.aload_n 0, 1) := by decide +kernel
theorem dX12_house_77 : decode cX12_house 77 = .ok (.iload_n 1, 1) := by decide +kernel
theorem dX12_house_78 : decode cX12_house 78 = .ok (.invokevirtual 306, 3) := by decide +kernel
theorem dX12_house_81 : decode cX12_house 81 = .ok (.ireturn, 1) := by decide +kernel
theorem dX12_household_0 : decode cX12_household 0 = .ok (.aload_n 0, 1) := by decide +kernel
theorem dX12_household_1 : decode cX12_household 1 = .ok (.aload_n 0, 1) := by decide +kernel
theorem dX12_household_2 : decode cX12_household 2 = .ok (.iload_n 1, 1) := by decide +kernel
theorem dX12_household_3 : decode cX12_household 3 = .ok (.i2l, 1) := by decide +kernel
theorem dX12_household_4 : decode cX12_household 4 = .ok (.invokevirtual 313, 3) := by decide +kernel
theorem dX12_household_7 : decode cX12_household 7 = .ok (.ifCond .ne 7, 3) := by decide +kernel
theorem dX12_household_10 : decode cX12_household 10 = .ok (.iconst 1, 1) := by decide +kernel
theorem dX12_household_11 : decode cX12_household 11 = .ok (.goto 20, 3) := by decide +kernel
theorem dX12_household_14 : decode cX12_household 14 = .ok (.iload_n 2, 1) := by decide +kernel
theorem dX12_household_15 : decode cX12_household 15 = .ok (.i2l, 1) := by decide +kernel
theorem dX12_household_16 : decode cX12_household 16 = .ok (.lconst 0, 1) := by decide +kernel
theorem dX12_household_17 : decode cX12_household 17 = .ok (.ldc2_w 319, 3) := by decide +kernel
theorem dX12_household_20 : decode cX12_household 20 = .ok (.invokestatic 128, 3) := by decide +kernel
theorem dX12_household_23 : decode cX12_household 23 = .ok (.ifCond .eq 7, 3) := by decide +kernel
theorem dX12_household_26 : decode cX12_household 26 = .ok (.iconst 0, 1) := by decide +kernel
theorem dX12_household_27 : decode cX12_household 27 = .ok (.goto 4, 3) := by decide +kernel
theorem dX12_household_30 : decode cX12_household 30 = .ok (.iconst 2, 1) := by decide +kernel
theorem dX12_household_31 : decode cX12_household 31 = .ok (.putfield 67, 3) := by decide +kernel
theorem dX12_household_34 : decode cX12_household 34 = .ok (.aload_n 0, 1) := by decide +kernel
theorem dX12_household_35 : decode cX12_household 35 = .ok (.getfield 67, 3) := by decide +kernel
theorem dX12_household_38 : decode cX12_household 38 = .ok (.ifCond .le 7, 3) := by decide +kernel
theorem dX12_household_41 : decode cX12_household 41 = .ok (.iconst 0, 1) := by decide +kernel
theorem dX12_household_42 : decode cX12_household 42 = .ok (.goto 17, 3) := by decide +kernel
theorem dX12_household_45 : decode cX12_household 45 = .ok (.aload_n 0, 1) := by decide +kernel
theorem dX12_household_46 : decode cX12_household 46 = .ok (.getfield 9, 3) := by decide +kernel
theorem dX12_household_49 : decode cX12_household 49 = .ok (.bipush 8, 2) := by decide +kernel
theorem dX12_household_51 : decode cX12_household 51 = .ok (.bipush 7, 2) := by decide +kernel
theorem dX12_household_53 : decode cX12_household 53 = .ok (.iload_n 2, 1) := by decide +kernel
theorem dX12_household_54 : decode cX12_household 54 = .ok (.imul, 1) := by decide +kernel
theorem dX12_household_55 : decode cX12_household 55 = .ok (.iadd, 1) := by decide +kernel
theorem dX12_household_56 : decode cX12_household 56 = .ok (.iload_n 1, 1) := by decide +kernel
theorem dX12_household_57 : decode cX12_household 57 = .ok (.iadd, 1) := by decide +kernel
theorem dX12_household_58 : decode cX12_household 58 = .ok (.iaload, 1) := by decide +kernel
theorem dX12_household_59 : decode cX12_household 59 = .ok (.ireturn, 1) := by decide +kernel
theorem dX12_pays_0 : decode cX12_pays 0 = .ok (.aload_n 0, 1) := by decide +kernel
theorem dX12_pays_1 : decode cX12_pays 1 = .ok (.aload_n 0, 1) := by decide +kernel
theorem dX12_pays_2 : decode cX12_pays 2 = .ok (.iload_n 1, 1) := by decide +kernel
theorem dX12_pays_3 : decode cX12_pays 3 = .ok (.i2l, 1) := by decide +kernel
theorem dX12_pays_4 : decode cX12_pays 4 = .ok (.invokevirtual 313, 3) := by decide +kernel
theorem dX12_pays_7 : decode cX12_pays 7 = .ok (.ifCond .ne 7, 3) := by decide +kernel
theorem dX12_pays_10 : decode cX12_pays 10 = .ok (.iconst 1, 1) := by decide +kernel
theorem dX12_pays_11 : decode cX12_pays 11 = .ok (.goto 16, 3) := by decide +kernel
theorem dX12_pays_14 : decode cX12_pays 14 = .ok (.aload_n 0, 1) := by decide +kernel
theorem dX12_pays_15 : decode cX12_pays 15 = .ok (.iload_n 1, 1) := by decide +kernel
theorem dX12_pays_16 : decode cX12_pays 16 = .ok (.invokevirtual 291, 3) := by decide +kernel
theorem dX12_pays_19 : decode cX12_pays 19 = .ok (.ifCond .eq 7, 3) := by decide +kernel
theorem dX12_pays_22 : decode cX12_pays 22 = .ok (.iconst 2, 1) := by decide +kernel
theorem dX12_pays_23 : decode cX12_pays 23 = .ok (.goto 4, 3) := by decide +kernel
theorem dX12_pays_26 : decode cX12_pays 26 = .ok (.iconst 0, 1) := by decide +kernel
theorem dX12_pays_27 : decode cX12_pays 27 = .ok (.putfield 67, 3) := by decide +kernel
theorem dX12_pays_30 : decode cX12_pays 30 = .ok (.aload_n 0, 1) := by decide +kernel
theorem dX12_pays_31 : decode cX12_pays 31 = .ok (.getfield 67, 3) := by decide +kernel
theorem dX12_pays_34 : decode cX12_pays 34 = .ok (.ifCond .le 7, 3) := by decide +kernel
theorem dX12_pays_37 : decode cX12_pays 37 = .ok (.iconst 0, 1) := by decide +kernel
theorem dX12_pays_38 : decode cX12_pays 38 = .ok (.goto 8, 3) := by decide +kernel
theorem dX12_pays_41 : decode cX12_pays 41 = .ok (.aload_n 0, 1) := by decide +kernel
theorem dX12_pays_42 : decode cX12_pays 42 = .ok (.iload_n 1, 1) := by decide +kernel
theorem dX12_pays_43 : decode cX12_pays 43 = .ok (.invokevirtual 282, 3) := by decide +kernel
theorem dX12_pays_46 : decode cX12_pays 46 = .ok (.ireturn, 1) := by decide +kernel
theorem dX12_grows_0 : decode cX12_grows 0 = .ok (.aload_n 0, 1) := by decide +kernel
theorem dX12_grows_1 : decode cX12_grows 1 = .ok (.aload_n 0, 1) := by decide +kernel
theorem dX12_grows_2 : decode cX12_grows 2 = .ok (.iload_n 1, 1) := by decide +kernel
theorem dX12_grows_3 : decode cX12_grows 3 = .ok (.i2l, 1) := by decide +kernel
theorem dX12_grows_4 : decode cX12_grows 4 = .ok (.invokevirtual 313, 3) := by decide +kernel
theorem dX12_grows_7 : decode cX12_grows 7 = .ok (.ifCond .ne 7, 3) := by decide +kernel
theorem dX12_grows_10 : decode cX12_grows 10 = .ok (.iconst 1, 1) := by decide +kernel
theorem dX12_grows_11 : decode cX12_grows 11 = .ok (.goto 20, 3) := by decide +kernel
theorem dX12_grows_14 : decode cX12_grows 14 = .ok (.iload_n 2, 1) := by decide +kernel
theorem dX12_grows_15 : decode cX12_grows 15 = .ok (.i2l, 1) := by decide +kernel
theorem dX12_grows_16 : decode cX12_grows 16 = .ok (.lconst 0, 1) := by decide +kernel
theorem dX12_grows_17 : decode cX12_grows 17 = .ok (.ldc2_w 321, 3) := by decide +kernel
theorem dX12_grows_20 : decode cX12_grows 20 = .ok (.invokestatic 128, 3) := by decide +kernel
theorem dX12_grows_23 : decode cX12_grows 23 = .ok (.ifCond .eq 7, 3) := by decide +kernel
theorem dX12_grows_26 : decode cX12_grows 26 = .ok (.iconst 0, 1) := by decide +kernel
theorem dX12_grows_27 : decode cX12_grows 27 = .ok (.goto 4, 3) := by decide +kernel
theorem dX12_grows_30 : decode cX12_grows 30 = .ok (.iconst 2, 1) := by decide +kernel
theorem dX12_grows_31 : decode cX12_grows 31 = .ok (.putfield 67, 3) := by decide +kernel
theorem dX12_grows_34 : decode cX12_grows 34 = .ok (.aload_n 0, 1) := by decide +kernel
theorem dX12_grows_35 : decode cX12_grows 35 = .ok (.getfield 67, 3) := by decide +kernel
theorem dX12_grows_38 : decode cX12_grows 38 = .ok (.ifCond .le 7, 3) := by decide +kernel
theorem dX12_grows_41 : decode cX12_grows 41 = .ok (.iconst 0, 1) := by decide +kernel
theorem dX12_grows_42 : decode cX12_grows 42 = .ok (.goto 9, 3) := by decide +kernel
theorem dX12_grows_45 : decode cX12_grows 45 = .ok (.aload_n 0, 1) := by decide +kernel
theorem dX12_grows_46 : decode cX12_grows 46 = .ok (.iload_n 1, 1) := by decide +kernel
theorem dX12_grows_47 : decode cX12_grows 47 = .ok (.iload_n 2, 1) := by decide +kernel
theorem dX12_grows_48 : decode cX12_grows 48 = .ok (.invokevirtual 297, 3) := by decide +kernel
theorem dX12_grows_51 : decode cX12_grows 51 = .ok (.ireturn, 1) := by decide +kernel
theorem dX12_takes_0 : decode cX12_takes 0 = .ok (.aload_n 0, 1) := by decide +kernel
theorem dX12_takes_1 : decode cX12_takes 1 = .ok (.aload_n 0, 1) := by decide +kernel
theorem dX12_takes_2 : decode cX12_takes 2 = .ok (.iload_n 1, 1) := by decide +kernel
theorem dX12_takes_3 : decode cX12_takes 3 = .ok (.i2l, 1) := by decide +kernel
theorem dX12_takes_4 : decode cX12_takes 4 = .ok (.invokevirtual 313, 3) := by decide +kernel
theorem dX12_takes_7 : decode cX12_takes 7 = .ok (.ifCond .ne 7, 3) := by decide +kernel
theorem dX12_takes_10 : decode cX12_takes 10 = .ok (.iconst 1, 1) := by decide +kernel
theorem dX12_takes_11 : decode cX12_takes 11 = .ok (.goto 20, 3) := by decide +kernel
theorem dX12_takes_14 : decode cX12_takes 14 = .ok (.iload_n 2, 1) := by decide +kernel
theorem dX12_takes_15 : decode cX12_takes 15 = .ok (.i2l, 1) := by decide +kernel
theorem dX12_takes_16 : decode cX12_takes 16 = .ok (.lconst 0, 1) := by decide +kernel
theorem dX12_takes_17 : decode cX12_takes 17 = .ok (.ldc2_w 321, 3) := by decide +kernel
theorem dX12_takes_20 : decode cX12_takes 20 = .ok (.invokestatic 128, 3) := by decide +kernel
theorem dX12_takes_23 : decode cX12_takes 23 = .ok (.ifCond .eq 7, 3) := by decide +kernel
theorem dX12_takes_26 : decode cX12_takes 26 = .ok (.iconst 0, 1) := by decide +kernel
theorem dX12_takes_27 : decode cX12_takes 27 = .ok (.goto 4, 3) := by decide +kernel
theorem dX12_takes_30 : decode cX12_takes 30 = .ok (.iconst 2, 1) := by decide +kernel
theorem dX12_takes_31 : decode cX12_takes 31 = .ok (.putfield 67, 3) := by decide +kernel
theorem dX12_takes_34 : decode cX12_takes 34 = .ok (.aload_n 0, 1) := by decide +kernel
theorem dX12_takes_35 : decode cX12_takes 35 = .ok (.getfield 67, 3) := by decide +kernel
theorem dX12_takes_38 : decode cX12_takes 38 = .ok (.ifCond .le 5, 3) := by decide +kernel
theorem dX12_takes_41 : decode cX12_takes 41 = .ok (.iconst 0, 1) := by decide +kernel
theorem dX12_takes_42 : decode cX12_takes 42 = .ok (.ireturn, 1) := by decide +kernel
theorem dX12_takes_43 : decode cX12_takes 43 = .ok (.aload_n 0, 1) := by decide +kernel
theorem dX12_takes_44 : decode cX12_takes 44 = .ok (.iload_n 1, 1) := by decide +kernel
theorem dX12_takes_45 : decode cX12_takes 45 = .ok (.invokevirtual 306, 3) := by decide +kernel
theorem dX12_takes_48 : decode cX12_takes 48 = .ok (.istore_n 3, 1) := by decide +kernel
theorem dX12_takes_49 : decode cX12_takes 49 = .ok (.iload_n 3, 1) := by decide +kernel
theorem dX12_takes_50 : decode cX12_takes 50 = .ok (.iconst (-1), 1) := by decide +kernel
theorem dX12_takes_51 : decode cX12_takes 51 = .ok (.if_icmp .eq 21, 3) := by decide +kernel
theorem dX12_takes_54 : decode cX12_takes 54 = .ok (.aload_n 0, 1) := by decide +kernel
theorem dX12_takes_55 : decode cX12_takes 55 = .ok (.iload_n 3, 1) := by decide +kernel
theorem dX12_takes_56 : decode cX12_takes 56 = .ok (.iload_n 2, 1) := by decide +kernel
theorem dX12_takes_57 : decode cX12_takes 57 = .ok (.aload_n 0, 1) := by decide +kernel
theorem dX12_takes_58 : decode cX12_takes 58 = .ok (.getfield 9, 3) := by decide +kernel
theorem dX12_takes_61 : decode cX12_takes 61 = .ok (.bipush 36, 2) := by decide +kernel
theorem dX12_takes_63 : decode cX12_takes 63 = .ok (.iload_n 3, 1) := by decide +kernel
theorem dX12_takes_64 : decode cX12_takes 64 = .ok (.iadd, 1) := by decide +kernel
theorem dX12_takes_65 : decode cX12_takes 65 = .ok (.iaload, 1) := by decide +kernel
theorem dX12_takes_66 : decode cX12_takes 66 = .ok (.invokevirtual 309, 3) := by decide +kernel
theorem dX12_takes_69 : decode cX12_takes 69 = .ok (.ifCond .eq 7, 3) := by decide +kernel
theorem dX12_takes_72 : decode cX12_takes 72 = .ok (.iconst 1, 1) := by decide +kernel
theorem dX12_takes_73 : decode cX12_takes 73 = .ok (.goto 4, 3) := by decide +kernel
theorem dX12_takes_76 : decode cX12_takes 76 = .ok (.iconst 0, 1) := by decide +kernel
theorem dX12_takes_77 : decode cX12_takes 77 = .ok (.ireturn, 1) := by decide +kernel
theorem dX12_keeps_0 : decode cX12_keeps 0 = .ok (.aload_n 0, 1) := by decide +kernel
theorem dX12_keeps_1 : decode cX12_keeps 1 = .ok (.getfield 9, 3) := by decide +kernel
theorem dX12_keeps_4 : decode cX12_keeps 4 = .ok (.bipush 7, 2) := by decide +kernel
theorem dX12_keeps_6 : decode cX12_keeps 6 = .ok (.iaload, 1) := by decide +kernel
theorem dX12_keeps_7 : decode cX12_keeps 7 = .ok (.bipush 10, 2) := by decide +kernel
theorem dX12_keeps_9 : decode cX12_keeps 9 = .ok (.if_icmp .ne 45, 3) := by decide +kernel
theorem dX12_keeps_12 : decode cX12_keeps 12 = .ok (.bipush 96, 2) := by decide +kernel
theorem dX12_keeps_14 : decode cX12_keeps 14 = .ok (.istore_n 1, 1) := by decide +kernel
theorem dX12_keeps_15 : decode cX12_keeps 15 = .ok (.iload_n 1, 1) := by decide +kernel
theorem dX12_keeps_16 : decode cX12_keeps 16 = .ok (.sipush 492, 3) := by decide +kernel
theorem dX12_keeps_19 : decode cX12_keeps 19 = .ok (.if_icmp .ge 24, 3) := by decide +kernel
theorem dX12_keeps_22 : decode cX12_keeps 22 = .ok (.aload_n 0, 1) := by decide +kernel
theorem dX12_keeps_23 : decode cX12_keeps 23 = .ok (.getfield 9, 3) := by decide +kernel
theorem dX12_keeps_26 : decode cX12_keeps 26 = .ok (.iload_n 1, 1) := by decide +kernel
theorem dX12_keeps_27 : decode cX12_keeps 27 = .ok (.aload_n 0, 1) := by decide +kernel
theorem dX12_keeps_28 : decode cX12_keeps 28 = .ok (.getfield 9, 3) := by decide +kernel
theorem dX12_keeps_31 : decode cX12_keeps 31 = .ok (.iload_n 1, 1) := by decide +kernel
theorem dX12_keeps_32 : decode cX12_keeps 32 = .ok (.bipush 44, 2) := by decide +kernel
theorem dX12_keeps_34 : decode cX12_keeps 34 = .ok (.iadd, 1) := by decide +kernel
theorem dX12_keeps_35 : decode cX12_keeps 35 = .ok (.iaload, 1) := by decide +kernel
theorem dX12_keeps_36 : decode cX12_keeps 36 = .ok (.iastore, 1) := by decide +kernel
theorem dX12_keeps_37 : decode cX12_keeps 37 = .ok (.iinc 1 1, 3) := by decide +kernel
theorem dX12_keeps_40 : decode cX12_keeps 40 = .ok (.goto (-25), 3) := by decide +kernel
theorem dX12_keeps_43 : decode cX12_keeps 43 = .ok (.aload_n 0, 1) := by decide +kernel
theorem dX12_keeps_44 : decode cX12_keeps 44 = .ok (.getfield 9, 3) := by decide +kernel
theorem dX12_keeps_47 : decode cX12_keeps 47 = .ok (.bipush 7, 2) := by decide +kernel
theorem dX12_keeps_49 : decode cX12_keeps 49 = .ok (.dup2, 1) := by decide +kernel
theorem dX12_keeps_50 : decode cX12_keeps 50 = .ok (.iaload, 1) := by decide +kernel
theorem dX12_keeps_51 : decode cX12_keeps 51 = .ok (.iconst 1, 1) := by decide +kernel
theorem dX12_keeps_52 : decode cX12_keeps 52 = .ok (.isub, 1) := by decide +kernel
theorem dX12_keeps_53 : decode cX12_keeps 53 = .ok (.iastore, 1) := by decide +kernel
theorem dX12_keeps_54 : decode cX12_keeps 54 = .ok (.iconst 0, 1) := by decide +kernel
theorem dX12_keeps_55 : decode cX12_keeps 55 = .ok (.istore_n 1, 1) := by decide +kernel
theorem dX12_keeps_56 : decode cX12_keeps 56 = .ok (.iload_n 1, 1) := by decide +kernel
theorem dX12_keeps_57 : decode cX12_keeps 57 = .ok (.bipush 44, 2) := by decide +kernel
theorem dX12_keeps_59 : decode cX12_keeps 59 = .ok (.if_icmp .ge 38, 3) := by decide +kernel
theorem dX12_keeps_62 : decode cX12_keeps 62 = .ok (.aload_n 0, 1) := by decide +kernel
theorem dX12_keeps_63 : decode cX12_keeps 63 = .ok (.getfield 9, 3) := by decide +kernel
theorem dX12_keeps_66 : decode cX12_keeps 66 = .ok (.bipush 96, 2) := by decide +kernel
theorem dX12_keeps_68 : decode cX12_keeps 68 = .ok (.bipush 44, 2) := by decide +kernel
theorem dX12_keeps_70 : decode cX12_keeps 70 = .ok (.aload_n 0, 1) := by decide +kernel
theorem dX12_keeps_71 : decode cX12_keeps 71 = .ok (.getfield 9, 3) := by decide +kernel
theorem dX12_keeps_74 : decode cX12_keeps 74 = .ok (.bipush 7, 2) := by decide +kernel
theorem dX12_keeps_76 : decode cX12_keeps 76 = .ok (.iaload, 1) := by decide +kernel
theorem dX12_keeps_77 : decode cX12_keeps 77 = .ok (.imul, 1) := by decide +kernel
theorem dX12_keeps_78 : decode cX12_keeps 78 = .ok (.iadd, 1) := by decide +kernel
theorem dX12_keeps_79 : decode cX12_keeps 79 = .ok (.iload_n 1, 1) := by decide +kernel
theorem dX12_keeps_80 : decode cX12_keeps 80 = .ok (.iadd, 1) := by decide +kernel
theorem dX12_keeps_81 : decode cX12_keeps 81 = .ok (.aload_n 0, 1) := by decide +kernel
theorem dX12_keeps_82 : decode cX12_keeps 82 = .ok (.getfield 9, 3) := by decide +kernel
theorem dX12_keeps_85 : decode cX12_keeps 85 = .ok (.bipush 8, 2) := by decide +kernel
theorem dX12_keeps_87 : decode cX12_keeps 87 = .ok (.iload_n 1, 1) := by decide +kernel
theorem dX12_keeps_88 : decode cX12_keeps 88 = .ok (.iadd, 1) := by decide +kernel
theorem dX12_keeps_89 : decode cX12_keeps 89 = .ok (.iaload, 1) := by decide +kernel
theorem dX12_keeps_90 : decode cX12_keeps 90 = .ok (.iastore, 1) := by decide +kernel
theorem dX12_keeps_91 : decode cX12_keeps 91 = .ok (.iinc 1 1, 3) := by decide +kernel
theorem dX12_keeps_94 : decode cX12_keeps 94 = .ok (.goto (-38), 3) := by decide +kernel
theorem dX12_keeps_97 : decode cX12_keeps 97 = .ok (.aload_n 0, 1) := by decide +kernel
theorem dX12_keeps_98 : decode cX12_keeps 98 = .ok (.getfield 9, 3) := by decide +kernel
theorem dX12_keeps_101 : decode cX12_keeps 101 = .ok (.bipush 7, 2) := by decide +kernel
theorem dX12_keeps_103 : decode cX12_keeps 103 = .ok (.dup2, 1) := by decide +kernel
theorem dX12_keeps_104 : decode cX12_keeps 104 = .ok (.iaload, 1) := by decide +kernel
theorem dX12_keeps_105 : decode cX12_keeps 105 = .ok (.iconst 1, 1) := by decide +kernel
theorem dX12_keeps_106 : decode cX12_keeps 106 = .ok (.iadd, 1) := by decide +kernel
theorem dX12_keeps_107 : decode cX12_keeps 107 = .ok (.iastore, 1) := by decide +kernel
theorem dX12_keeps_108 : decode cX12_keeps 108 = .ok (.return_, 1) := by decide +kernel
theorem dX12_putsAside_0 : decode cX12_putsAside 0 = .ok (.iconst 0, 1) := by decide +kernel
theorem dX12_putsAside_1 : decode cX12_putsAside 1 = .ok (.istore_n 1, 1) := by decide +kernel
theorem dX12_putsAside_2 : decode cX12_putsAside 2 = .ok (.iload_n 1, 1) := by decide +kernel
theorem dX12_putsAside_3 : decode cX12_putsAside 3 = .ok (.bipush 44, 2) := by decide +kernel
theorem dX12_putsAside_5 : decode cX12_putsAside 5 = .ok (.if_icmp .ge 24, 3) := by decide +kernel
theorem dX12_putsAside_8 : decode cX12_putsAside 8 = .ok (.aload_n 0, 1) := by decide +kernel
theorem dX12_putsAside_9 : decode cX12_putsAside 9 = .ok (.getfield 42, 3) := by decide +kernel
theorem dX12_putsAside_12 : decode cX12_putsAside 12 = .ok (.iload_n 1, 1) := by decide +kernel
theorem dX12_putsAside_13 : decode cX12_putsAside 13 = .ok (.aload_n 0, 1) := by decide +kernel
theorem dX12_putsAside_14 : decode cX12_putsAside 14 = .ok (.getfield 9, 3) := by decide +kernel
theorem dX12_putsAside_17 : decode cX12_putsAside 17 = .ok (.bipush 8, 2) := by decide +kernel
theorem dX12_putsAside_19 : decode cX12_putsAside 19 = .ok (.iload_n 1, 1) := by decide +kernel
theorem dX12_putsAside_20 : decode cX12_putsAside 20 = .ok (.iadd, 1) := by decide +kernel
theorem dX12_putsAside_21 : decode cX12_putsAside 21 = .ok (.iaload, 1) := by decide +kernel
theorem dX12_putsAside_22 : decode cX12_putsAside 22 = .ok (.iastore, 1) := by decide +kernel
theorem dX12_putsAside_23 : decode cX12_putsAside 23 = .ok (.iinc 1 1, 3) := by decide +kernel
theorem dX12_putsAside_26 : decode cX12_putsAside 26 = .ok (.goto (-24), 3) := by decide +kernel
theorem dX12_putsAside_29 : decode cX12_putsAside 29 = .ok (.return_, 1) := by decide +kernel
theorem dX12_putsBack_0 : decode cX12_putsBack 0 = .ok (.iconst 0, 1) := by decide +kernel
theorem dX12_putsBack_1 : decode cX12_putsBack 1 = .ok (.istore_n 1, 1) := by decide +kernel
theorem dX12_putsBack_2 : decode cX12_putsBack 2 = .ok (.iload_n 1, 1) := by decide +kernel
theorem dX12_putsBack_3 : decode cX12_putsBack 3 = .ok (.bipush 44, 2) := by decide +kernel
theorem dX12_putsBack_5 : decode cX12_putsBack 5 = .ok (.if_icmp .ge 24, 3) := by decide +kernel
theorem dX12_putsBack_8 : decode cX12_putsBack 8 = .ok (.aload_n 0, 1) := by decide +kernel
theorem dX12_putsBack_9 : decode cX12_putsBack 9 = .ok (.getfield 9, 3) := by decide +kernel
theorem dX12_putsBack_12 : decode cX12_putsBack 12 = .ok (.bipush 8, 2) := by decide +kernel
theorem dX12_putsBack_14 : decode cX12_putsBack 14 = .ok (.iload_n 1, 1) := by decide +kernel
theorem dX12_putsBack_15 : decode cX12_putsBack 15 = .ok (.iadd, 1) := by decide +kernel
theorem dX12_putsBack_16 : decode cX12_putsBack 16 = .ok (.aload_n 0, 1) := by decide +kernel
theorem dX12_putsBack_17 : decode cX12_putsBack 17 = .ok (.getfield 42, 3) := by decide +kernel
theorem dX12_putsBack_20 : decode cX12_putsBack 20 = .ok (.iload_n 1, 1) := by decide +kernel
theorem dX12_putsBack_21 : decode cX12_putsBack 21 = .ok (.iaload, 1) := by decide +kernel
theorem dX12_putsBack_22 : decode cX12_putsBack 22 = .ok (.iastore, 1) := by decide +kernel
theorem dX12_putsBack_23 : decode cX12_putsBack 23 = .ok (.iinc 1 1, 3) := by decide +kernel
theorem dX12_putsBack_26 : decode cX12_putsBack 26 = .ok (.goto (-24), 3) := by decide +kernel
theorem dX12_putsBack_29 : decode cX12_putsBack 29 = .ok (.return_, 1) := by decide +kernel
theorem dX12_whyTwo_0 : decode cX12_whyTwo 0 = .ok (.aload_n 0, 1) := by decide +kernel
theorem dX12_whyTwo_1 : decode cX12_whyTwo 1 = .ok (.lload_n 1, 1) := by decide +kernel
theorem dX12_whyTwo_2 : decode cX12_whyTwo 2 = .ok (.invokevirtual 313, 3) := by decide +kernel
theorem dX12_whyTwo_5 : decode cX12_whyTwo 5 = .ok (.ifCond .eq 21, 3) := by decide +kernel
theorem dX12_whyTwo_8 : decode cX12_whyTwo 8 = .ok (.aload_n 0, 1) := by decide +kernel
theorem dX12_whyTwo_9 : decode cX12_whyTwo 9 = .ok (.lload_n 3, 1) := by decide +kernel
theorem dX12_whyTwo_10 : decode cX12_whyTwo 10 = .ok (.invokevirtual 313, 3) := by decide +kernel
theorem dX12_whyTwo_13 : decode cX12_whyTwo 13 = .ok (.ifCond .eq 13, 3) := by decide +kernel
theorem dX12_whyTwo_16 : decode cX12_whyTwo 16 = .ok (.lload_n 1, 1) := by decide +kernel
theorem dX12_whyTwo_17 : decode cX12_whyTwo 17 = .ok (.lload_n 3, 1) := by decide +kernel
theorem dX12_whyTwo_18 : decode cX12_whyTwo 18 = .ok (.lcmp, 1) := by decide +kernel
theorem dX12_whyTwo_19 : decode cX12_whyTwo 19 = .ok (.ifCond .eq 7, 3) := by decide +kernel
theorem dX12_whyTwo_22 : decode cX12_whyTwo 22 = .ok (.iconst 0, 1) := by decide +kernel
theorem dX12_whyTwo_23 : decode cX12_whyTwo 23 = .ok (.goto 4, 3) := by decide +kernel
theorem dX12_whyTwo_26 : decode cX12_whyTwo 26 = .ok (.iconst 1, 1) := by decide +kernel
theorem dX12_whyTwo_27 : decode cX12_whyTwo 27 = .ok (.ireturn, 1) := by decide +kernel
theorem dX12_whyGift_0 : decode cX12_whyGift 0 = .ok (.aload_n 0, 1) := by decide +kernel
theorem dX12_whyGift_1 : decode cX12_whyGift 1 = .ok (.lload_n 1, 1) := by decide +kernel
theorem dX12_whyGift_2 : decode cX12_whyGift 2 = .ok (.lload_n 3, 1) := by decide +kernel
theorem dX12_whyGift_3 : decode cX12_whyGift 3 = .ok (.invokevirtual 323, 3) := by decide +kernel
theorem dX12_whyGift_6 : decode cX12_whyGift 6 = .ok (.ifCond .ne 15, 3) := by decide +kernel
theorem dX12_whyGift_9 : decode cX12_whyGift 9 = .ok (.lload 5, 2) := by decide +kernel
theorem dX12_whyGift_11 : decode cX12_whyGift 11 = .ok (.lconst 1, 1) := by decide +kernel
theorem dX12_whyGift_12 : decode cX12_whyGift 12 = .ok (.ldc2_w 327, 3) := by decide +kernel
theorem dX12_whyGift_15 : decode cX12_whyGift 15 = .ok (.invokestatic 128, 3) := by decide +kernel
theorem dX12_whyGift_18 : decode cX12_whyGift 18 = .ok (.ifCond .ne 5, 3) := by decide +kernel
theorem dX12_whyGift_21 : decode cX12_whyGift 21 = .ok (.iconst 1, 1) := by decide +kernel
theorem dX12_whyGift_22 : decode cX12_whyGift 22 = .ok (.ireturn, 1) := by decide +kernel
theorem dX12_whyGift_23 : decode cX12_whyGift 23 = .ok (.aload_n 0, 1) := by decide +kernel
theorem dX12_whyGift_24 : decode cX12_whyGift 24 = .ok (.lload_n 1, 1) := by decide +kernel
theorem dX12_whyGift_25 : decode cX12_whyGift 25 = .ok (.l2i, 1) := by decide +kernel
theorem dX12_whyGift_26 : decode cX12_whyGift 26 = .ok (.invokevirtual 291, 3) := by decide +kernel
theorem dX12_whyGift_29 : decode cX12_whyGift 29 = .ok (.ifCond .ne 12, 3) := by decide +kernel
theorem dX12_whyGift_32 : decode cX12_whyGift 32 = .ok (.aload_n 0, 1) := by decide +kernel
theorem dX12_whyGift_33 : decode cX12_whyGift 33 = .ok (.lload_n 3, 1) := by decide +kernel
theorem dX12_whyGift_34 : decode cX12_whyGift 34 = .ok (.l2i, 1) := by decide +kernel
theorem dX12_whyGift_35 : decode cX12_whyGift 35 = .ok (.invokevirtual 291, 3) := by decide +kernel
theorem dX12_whyGift_38 : decode cX12_whyGift 38 = .ok (.ifCond .eq 7, 3) := by decide +kernel
theorem dX12_whyGift_41 : decode cX12_whyGift 41 = .ok (.iconst 2, 1) := by decide +kernel
theorem dX12_whyGift_42 : decode cX12_whyGift 42 = .ok (.goto 25, 3) := by decide +kernel
theorem dX12_whyGift_45 : decode cX12_whyGift 45 = .ok (.aload_n 0, 1) := by decide +kernel
theorem dX12_whyGift_46 : decode cX12_whyGift 46 = .ok (.getfield 9, 3) := by decide +kernel
theorem dX12_whyGift_49 : decode cX12_whyGift 49 = .ok (.bipush 22, 2) := by decide +kernel
theorem dX12_whyGift_51 : decode cX12_whyGift 51 = .ok (.lload_n 1, 1) := by decide +kernel
theorem dX12_whyGift_52 : decode cX12_whyGift 52 = .ok (.l2i, 1) := by decide +kernel
theorem dX12_whyGift_53 : decode cX12_whyGift 53 = .ok (.iadd, 1) := by decide +kernel
theorem dX12_whyGift_54 : decode cX12_whyGift 54 = .ok (.iaload, 1) := by decide +kernel
theorem dX12_whyGift_55 : decode cX12_whyGift 55 = .ok (.i2l, 1) := by decide +kernel
theorem dX12_whyGift_56 : decode cX12_whyGift 56 = .ok (.lload 5, 2) := by decide +kernel
theorem dX12_whyGift_58 : decode cX12_whyGift 58 = .ok (.lcmp, 1) := by decide +kernel
theorem dX12_whyGift_59 : decode cX12_whyGift 59 = .ok (.ifCond .ge 7, 3) := by decide +kernel
theorem dX12_whyGift_62 : decode cX12_whyGift 62 = .ok (.iconst 3, 1) := by decide +kernel
theorem dX12_whyGift_63 : decode cX12_whyGift 63 = .ok (.goto 4, 3) := by decide +kernel
theorem dX12_whyGift_66 : decode cX12_whyGift 66 = .ok (.iconst 0, 1) := by decide +kernel
theorem dX12_whyGift_67 : decode cX12_whyGift 67 = .ok (.ireturn, 1) := by decide +kernel
theorem dX12_canPay_0 : decode cX12_canPay 0 = .ok (.aload_n 0, 1) := by decide +kernel
theorem dX12_canPay_1 : decode cX12_canPay 1 = .ok (.getfield 9, 3) := by decide +kernel
theorem dX12_canPay_4 : decode cX12_canPay 4 = .ok (.bipush 22, 2) := by decide +kernel
theorem dX12_canPay_6 : decode cX12_canPay 6 = .ok (.iload_n 1, 1) := by decide +kernel
theorem dX12_canPay_7 : decode cX12_canPay 7 = .ok (.iadd, 1) := by decide +kernel
theorem dX12_canPay_8 : decode cX12_canPay 8 = .ok (.iaload, 1) := by decide +kernel
theorem dX12_canPay_9 : decode cX12_canPay 9 = .ok (.aload_n 0, 1) := by decide +kernel
theorem dX12_canPay_10 : decode cX12_canPay 10 = .ok (.getfield 9, 3) := by decide +kernel
theorem dX12_canPay_13 : decode cX12_canPay 13 = .ok (.bipush 36, 2) := by decide +kernel
theorem dX12_canPay_15 : decode cX12_canPay 15 = .ok (.iload_n 1, 1) := by decide +kernel
theorem dX12_canPay_16 : decode cX12_canPay 16 = .ok (.iadd, 1) := by decide +kernel
theorem dX12_canPay_17 : decode cX12_canPay 17 = .ok (.iaload, 1) := by decide +kernel
theorem dX12_canPay_18 : decode cX12_canPay 18 = .ok (.invokestatic 201, 3) := by decide +kernel
theorem dX12_canPay_21 : decode cX12_canPay 21 = .ok (.ireturn, 1) := by decide +kernel
theorem dX12_whyPay_0 : decode cX12_whyPay 0 = .ok (.aload_n 0, 1) := by decide +kernel
theorem dX12_whyPay_1 : decode cX12_whyPay 1 = .ok (.lload_n 1, 1) := by decide +kernel
theorem dX12_whyPay_2 : decode cX12_whyPay 2 = .ok (.invokevirtual 313, 3) := by decide +kernel
theorem dX12_whyPay_5 : decode cX12_whyPay 5 = .ok (.ifCond .eq 14, 3) := by decide +kernel
theorem dX12_whyPay_8 : decode cX12_whyPay 8 = .ok (.lload_n 3, 1) := by decide +kernel
theorem dX12_whyPay_9 : decode cX12_whyPay 9 = .ok (.lconst 1, 1) := by decide +kernel
theorem dX12_whyPay_10 : decode cX12_whyPay 10 = .ok (.ldc2_w 327, 3) := by decide +kernel
theorem dX12_whyPay_13 : decode cX12_whyPay 13 = .ok (.invokestatic 128, 3) := by decide +kernel
theorem dX12_whyPay_16 : decode cX12_whyPay 16 = .ok (.ifCond .ne 5, 3) := by decide +kernel
theorem dX12_whyPay_19 : decode cX12_whyPay 19 = .ok (.iconst 1, 1) := by decide +kernel
theorem dX12_whyPay_20 : decode cX12_whyPay 20 = .ok (.ireturn, 1) := by decide +kernel
theorem dX12_whyPay_21 : decode cX12_whyPay 21 = .ok (.aload_n 0, 1) := by decide +kernel
theorem dX12_whyPay_22 : decode cX12_whyPay 22 = .ok (.lload_n 1, 1) := by decide +kernel
theorem dX12_whyPay_23 : decode cX12_whyPay 23 = .ok (.l2i, 1) := by decide +kernel
theorem dX12_whyPay_24 : decode cX12_whyPay 24 = .ok (.invokevirtual 291, 3) := by decide +kernel
theorem dX12_whyPay_27 : decode cX12_whyPay 27 = .ok (.ifCond .eq 7, 3) := by decide +kernel
theorem dX12_whyPay_30 : decode cX12_whyPay 30 = .ok (.iconst 2, 1) := by decide +kernel
theorem dX12_whyPay_31 : decode cX12_whyPay 31 = .ok (.goto 17, 3) := by decide +kernel
theorem dX12_whyPay_34 : decode cX12_whyPay 34 = .ok (.aload_n 0, 1) := by decide +kernel
theorem dX12_whyPay_35 : decode cX12_whyPay 35 = .ok (.lload_n 1, 1) := by decide +kernel
theorem dX12_whyPay_36 : decode cX12_whyPay 36 = .ok (.l2i, 1) := by decide +kernel
theorem dX12_whyPay_37 : decode cX12_whyPay 37 = .ok (.invokevirtual 329, 3) := by decide +kernel
theorem dX12_whyPay_40 : decode cX12_whyPay 40 = .ok (.ifCond .ne 7, 3) := by decide +kernel
theorem dX12_whyPay_43 : decode cX12_whyPay 43 = .ok (.iconst 3, 1) := by decide +kernel
theorem dX12_whyPay_44 : decode cX12_whyPay 44 = .ok (.goto 4, 3) := by decide +kernel
theorem dX12_whyPay_47 : decode cX12_whyPay 47 = .ok (.iconst 0, 1) := by decide +kernel
theorem dX12_whyPay_48 : decode cX12_whyPay 48 = .ok (.ireturn, 1) := by decide +kernel
theorem dX12_swaps_0 : decode cX12_swaps 0 = .ok (.iconst 0, 1) := by decide +kernel
theorem dX12_swaps_1 : decode cX12_swaps 1 = .ok (.istore_n 3, 1) := by decide +kernel
theorem dX12_swaps_2 : decode cX12_swaps 2 = .ok (.iload_n 3, 1) := by decide +kernel
theorem dX12_swaps_3 : decode cX12_swaps 3 = .ok (.iconst 4, 1) := by decide +kernel
theorem dX12_swaps_4 : decode cX12_swaps 4 = .ok (.if_icmp .ge 69, 3) := by decide +kernel
theorem dX12_swaps_7 : decode cX12_swaps 7 = .ok (.aload_n 0, 1) := by decide +kernel
theorem dX12_swaps_8 : decode cX12_swaps 8 = .ok (.getfield 9, 3) := by decide +kernel
theorem dX12_swaps_11 : decode cX12_swaps 11 = .ok (.bipush 8, 2) := by decide +kernel
theorem dX12_swaps_13 : decode cX12_swaps 13 = .ok (.bipush 7, 2) := by decide +kernel
theorem dX12_swaps_15 : decode cX12_swaps 15 = .ok (.iload_n 3, 1) := by decide +kernel
theorem dX12_swaps_16 : decode cX12_swaps 16 = .ok (.imul, 1) := by decide +kernel
theorem dX12_swaps_17 : decode cX12_swaps 17 = .ok (.iadd, 1) := by decide +kernel
theorem dX12_swaps_18 : decode cX12_swaps 18 = .ok (.iload_n 1, 1) := by decide +kernel
theorem dX12_swaps_19 : decode cX12_swaps 19 = .ok (.iadd, 1) := by decide +kernel
theorem dX12_swaps_20 : decode cX12_swaps 20 = .ok (.iaload, 1) := by decide +kernel
theorem dX12_swaps_21 : decode cX12_swaps 21 = .ok (.istore 4, 2) := by decide +kernel
theorem dX12_swaps_23 : decode cX12_swaps 23 = .ok (.aload_n 0, 1) := by decide +kernel
theorem dX12_swaps_24 : decode cX12_swaps 24 = .ok (.getfield 9, 3) := by decide +kernel
theorem dX12_swaps_27 : decode cX12_swaps 27 = .ok (.bipush 8, 2) := by decide +kernel
theorem dX12_swaps_29 : decode cX12_swaps 29 = .ok (.bipush 7, 2) := by decide +kernel
theorem dX12_swaps_31 : decode cX12_swaps 31 = .ok (.iload_n 3, 1) := by decide +kernel
theorem dX12_swaps_32 : decode cX12_swaps 32 = .ok (.imul, 1) := by decide +kernel
theorem dX12_swaps_33 : decode cX12_swaps 33 = .ok (.iadd, 1) := by decide +kernel
theorem dX12_swaps_34 : decode cX12_swaps 34 = .ok (.iload_n 1, 1) := by decide +kernel
theorem dX12_swaps_35 : decode cX12_swaps 35 = .ok (.iadd, 1) := by decide +kernel
theorem dX12_swaps_36 : decode cX12_swaps 36 = .ok (.aload_n 0, 1) := by decide +kernel
theorem dX12_swaps_37 : decode cX12_swaps 37 = .ok (.getfield 9, 3) := by decide +kernel
theorem dX12_swaps_40 : decode cX12_swaps 40 = .ok (.bipush 8, 2) := by decide +kernel
theorem dX12_swaps_42 : decode cX12_swaps 42 = .ok (.bipush 7, 2) := by decide +kernel
theorem dX12_swaps_44 : decode cX12_swaps 44 = .ok (.iload_n 3, 1) := by decide +kernel
theorem dX12_swaps_45 : decode cX12_swaps 45 = .ok (.imul, 1) := by decide +kernel
theorem dX12_swaps_46 : decode cX12_swaps 46 = .ok (.iadd, 1) := by decide +kernel
theorem dX12_swaps_47 : decode cX12_swaps 47 = .ok (.iload_n 2, 1) := by decide +kernel
theorem dX12_swaps_48 : decode cX12_swaps 48 = .ok (.iadd, 1) := by decide +kernel
theorem dX12_swaps_49 : decode cX12_swaps 49 = .ok (.iaload, 1) := by decide +kernel
theorem dX12_swaps_50 : decode cX12_swaps 50 = .ok (.iastore, 1) := by decide +kernel
theorem dX12_swaps_51 : decode cX12_swaps 51 = .ok (.aload_n 0, 1) := by decide +kernel
theorem dX12_swaps_52 : decode cX12_swaps 52 = .ok (.getfield 9, 3) := by decide +kernel
theorem dX12_swaps_55 : decode cX12_swaps 55 = .ok (.bipush 8, 2) := by decide +kernel
theorem dX12_swaps_57 : decode cX12_swaps 57 = .ok (.bipush 7, 2) := by decide +kernel
theorem dX12_swaps_59 : decode cX12_swaps 59 = .ok (.iload_n 3, 1) := by decide +kernel
theorem dX12_swaps_60 : decode cX12_swaps 60 = .ok (.imul, 1) := by decide +kernel
theorem dX12_swaps_61 : decode cX12_swaps 61 = .ok (.iadd, 1) := by decide +kernel
theorem dX12_swaps_62 : decode cX12_swaps 62 = .ok (.iload_n 2, 1) := by decide +kernel
theorem dX12_swaps_63 : decode cX12_swaps 63 = .ok (.iadd, 1) := by decide +kernel
theorem dX12_swaps_64 : decode cX12_swaps 64 = .ok (.iload 4, 2) := by decide +kernel
theorem dX12_swaps_66 : decode cX12_swaps 66 = .ok (.iastore, 1) := by decide +kernel
theorem dX12_swaps_67 : decode cX12_swaps 67 = .ok (.iinc 3 1, 3) := by decide +kernel
theorem dX12_swaps_70 : decode cX12_swaps 70 = .ok (.goto (-68), 3) := by decide +kernel
theorem dX12_swaps_73 : decode cX12_swaps 73 = .ok (.return_, 1) := by decide +kernel
theorem dX12_gives_0 : decode cX12_gives 0 = .ok (.aload_n 0, 1) := by decide +kernel
theorem dX12_gives_1 : decode cX12_gives 1 = .ok (.getfield 9, 3) := by decide +kernel
theorem dX12_gives_4 : decode cX12_gives 4 = .ok (.bipush 22, 2) := by decide +kernel
theorem dX12_gives_6 : decode cX12_gives 6 = .ok (.iload_n 1, 1) := by decide +kernel
theorem dX12_gives_7 : decode cX12_gives 7 = .ok (.iadd, 1) := by decide +kernel
theorem dX12_gives_8 : decode cX12_gives 8 = .ok (.dup2, 1) := by decide +kernel
theorem dX12_gives_9 : decode cX12_gives 9 = .ok (.iaload, 1) := by decide +kernel
theorem dX12_gives_10 : decode cX12_gives 10 = .ok (.iload_n 3, 1) := by decide +kernel
theorem dX12_gives_11 : decode cX12_gives 11 = .ok (.isub, 1) := by decide +kernel
theorem dX12_gives_12 : decode cX12_gives 12 = .ok (.iastore, 1) := by decide +kernel
theorem dX12_gives_13 : decode cX12_gives 13 = .ok (.aload_n 0, 1) := by decide +kernel
theorem dX12_gives_14 : decode cX12_gives 14 = .ok (.getfield 9, 3) := by decide +kernel
theorem dX12_gives_17 : decode cX12_gives 17 = .ok (.bipush 22, 2) := by decide +kernel
theorem dX12_gives_19 : decode cX12_gives 19 = .ok (.iload_n 2, 1) := by decide +kernel
theorem dX12_gives_20 : decode cX12_gives 20 = .ok (.iadd, 1) := by decide +kernel
theorem dX12_gives_21 : decode cX12_gives 21 = .ok (.aload_n 0, 1) := by decide +kernel
theorem dX12_gives_22 : decode cX12_gives 22 = .ok (.getfield 9, 3) := by decide +kernel
theorem dX12_gives_25 : decode cX12_gives 25 = .ok (.bipush 22, 2) := by decide +kernel
theorem dX12_gives_27 : decode cX12_gives 27 = .ok (.iload_n 2, 1) := by decide +kernel
theorem dX12_gives_28 : decode cX12_gives 28 = .ok (.iadd, 1) := by decide +kernel
theorem dX12_gives_29 : decode cX12_gives 29 = .ok (.iaload, 1) := by decide +kernel
theorem dX12_gives_30 : decode cX12_gives 30 = .ok (.iload_n 3, 1) := by decide +kernel
theorem dX12_gives_31 : decode cX12_gives 31 = .ok (.iadd, 1) := by decide +kernel
theorem dX12_gives_32 : decode cX12_gives 32 = .ok (.invokestatic 279, 3) := by decide +kernel
theorem dX12_gives_35 : decode cX12_gives 35 = .ok (.iastore, 1) := by decide +kernel
theorem dX12_gives_36 : decode cX12_gives 36 = .ok (.return_, 1) := by decide +kernel
theorem dX12_paysOff_0 : decode cX12_paysOff 0 = .ok (.iload_n 2, 1) := by decide +kernel
theorem dX12_paysOff_1 : decode cX12_paysOff 1 = .ok (.aload_n 0, 1) := by decide +kernel
theorem dX12_paysOff_2 : decode cX12_paysOff 2 = .ok (.iload_n 1, 1) := by decide +kernel
theorem dX12_paysOff_3 : decode cX12_paysOff 3 = .ok (.invokevirtual 329, 3) := by decide +kernel
theorem dX12_paysOff_6 : decode cX12_paysOff 6 = .ok (.invokestatic 201, 3) := by decide +kernel
theorem dX12_paysOff_9 : decode cX12_paysOff 9 = .ok (.istore_n 3, 1) := by decide +kernel
theorem dX12_paysOff_10 : decode cX12_paysOff 10 = .ok (.aload_n 0, 1) := by decide +kernel
theorem dX12_paysOff_11 : decode cX12_paysOff 11 = .ok (.getfield 9, 3) := by decide +kernel
theorem dX12_paysOff_14 : decode cX12_paysOff 14 = .ok (.bipush 22, 2) := by decide +kernel
theorem dX12_paysOff_16 : decode cX12_paysOff 16 = .ok (.iload_n 1, 1) := by decide +kernel
theorem dX12_paysOff_17 : decode cX12_paysOff 17 = .ok (.iadd, 1) := by decide +kernel
theorem dX12_paysOff_18 : decode cX12_paysOff 18 = .ok (.dup2, 1) := by decide +kernel
theorem dX12_paysOff_19 : decode cX12_paysOff 19 = .ok (.iaload, 1) := by decide +kernel
theorem dX12_paysOff_20 : decode cX12_paysOff 20 = .ok (.iload_n 3, 1) := by decide +kernel
theorem dX12_paysOff_21 : decode cX12_paysOff 21 = .ok (.isub, 1) := by decide +kernel
theorem dX12_paysOff_22 : decode cX12_paysOff 22 = .ok (.iastore, 1) := by decide +kernel
theorem dX12_paysOff_23 : decode cX12_paysOff 23 = .ok (.aload_n 0, 1) := by decide +kernel
theorem dX12_paysOff_24 : decode cX12_paysOff 24 = .ok (.getfield 9, 3) := by decide +kernel
theorem dX12_paysOff_27 : decode cX12_paysOff 27 = .ok (.bipush 36, 2) := by decide +kernel
theorem dX12_paysOff_29 : decode cX12_paysOff 29 = .ok (.iload_n 1, 1) := by decide +kernel
theorem dX12_paysOff_30 : decode cX12_paysOff 30 = .ok (.iadd, 1) := by decide +kernel
theorem dX12_paysOff_31 : decode cX12_paysOff 31 = .ok (.dup2, 1) := by decide +kernel
theorem dX12_paysOff_32 : decode cX12_paysOff 32 = .ok (.iaload, 1) := by decide +kernel
theorem dX12_paysOff_33 : decode cX12_paysOff 33 = .ok (.iload_n 3, 1) := by decide +kernel
theorem dX12_paysOff_34 : decode cX12_paysOff 34 = .ok (.isub, 1) := by decide +kernel
theorem dX12_paysOff_35 : decode cX12_paysOff 35 = .ok (.iastore, 1) := by decide +kernel
theorem dX12_paysOff_36 : decode cX12_paysOff 36 = .ok (.iload_n 3, 1) := by decide +kernel
theorem dX12_paysOff_37 : decode cX12_paysOff 37 = .ok (.ireturn, 1) := by decide +kernel
theorem dX12_swap_0 : decode cX12_swap 0 = .ok (.aload_n 0, 1) := by decide +kernel
theorem dX12_swap_1 : decode cX12_swap 1 = .ok (.iconst 0, 1) := by decide +kernel
theorem dX12_swap_2 : decode cX12_swap 2 = .ok (.putfield 67, 3) := by decide +kernel
theorem dX12_swap_5 : decode cX12_swap 5 = .ok (.aload_n 0, 1) := by decide +kernel
theorem dX12_swap_6 : decode cX12_swap 6 = .ok (.iload_n 1, 1) := by decide +kernel
theorem dX12_swap_7 : decode cX12_swap 7 = .ok (.i2l, 1) := by decide +kernel
theorem dX12_swap_8 : decode cX12_swap 8 = .ok (.iload_n 2, 1) := by decide +kernel
theorem dX12_swap_9 : decode cX12_swap 9 = .ok (.i2l, 1) := by decide +kernel
theorem dX12_swap_10 : decode cX12_swap 10 = .ok (.invokevirtual 323, 3) := by decide +kernel
theorem dX12_swap_13 : decode cX12_swap 13 = .ok (.ifCond .eq 5, 3) := by decide +kernel
theorem dX12_swap_16 : decode cX12_swap 16 = .ok (.iconst (-1), 1) := by decide +kernel
theorem dX12_swap_17 : decode cX12_swap 17 = .ok (.ireturn, 1) := by decide +kernel
theorem dX12_swap_18 : decode cX12_swap 18 = .ok (.aload_n 0, 1) := by decide +kernel
theorem dX12_swap_19 : decode cX12_swap 19 = .ok (.invokevirtual 332, 3) := by decide +kernel
theorem dX12_swap_22 : decode cX12_swap 22 = .ok (.aload_n 0, 1) := by decide +kernel
theorem dX12_swap_23 : decode cX12_swap 23 = .ok (.iload_n 1, 1) := by decide +kernel
theorem dX12_swap_24 : decode cX12_swap 24 = .ok (.iload_n 2, 1) := by decide +kernel
theorem dX12_swap_25 : decode cX12_swap 25 = .ok (.invokevirtual 335, 3) := by decide +kernel
theorem dX12_swap_28 : decode cX12_swap 28 = .ok (.aload_n 0, 1) := by decide +kernel
theorem dX12_swap_29 : decode cX12_swap 29 = .ok (.getfield 9, 3) := by decide +kernel
theorem dX12_swap_32 : decode cX12_swap 32 = .ok (.bipush 36, 2) := by decide +kernel
theorem dX12_swap_34 : decode cX12_swap 34 = .ok (.iload_n 1, 1) := by decide +kernel
theorem dX12_swap_35 : decode cX12_swap 35 = .ok (.iadd, 1) := by decide +kernel
theorem dX12_swap_36 : decode cX12_swap 36 = .ok (.iaload, 1) := by decide +kernel
theorem dX12_swap_37 : decode cX12_swap 37 = .ok (.aload_n 0, 1) := by decide +kernel
theorem dX12_swap_38 : decode cX12_swap 38 = .ok (.getfield 9, 3) := by decide +kernel
theorem dX12_swap_41 : decode cX12_swap 41 = .ok (.bipush 36, 2) := by decide +kernel
theorem dX12_swap_43 : decode cX12_swap 43 = .ok (.iload_n 2, 1) := by decide +kernel
theorem dX12_swap_44 : decode cX12_swap 44 = .ok (.iadd, 1) := by decide +kernel
theorem dX12_swap_45 : decode cX12_swap 45 = .ok (.iaload, 1) := by decide +kernel
theorem dX12_swap_46 : decode cX12_swap 46 = .ok (.iadd, 1) := by decide +kernel
theorem dX12_swap_47 : decode cX12_swap 47 = .ok (.ireturn, 1) := by decide +kernel
theorem dX12_gift_0 : decode cX12_gift 0 = .ok (.aload_n 0, 1) := by decide +kernel
theorem dX12_gift_1 : decode cX12_gift 1 = .ok (.iconst 0, 1) := by decide +kernel
theorem dX12_gift_2 : decode cX12_gift 2 = .ok (.putfield 67, 3) := by decide +kernel
theorem dX12_gift_5 : decode cX12_gift 5 = .ok (.aload_n 0, 1) := by decide +kernel
theorem dX12_gift_6 : decode cX12_gift 6 = .ok (.iload_n 1, 1) := by decide +kernel
theorem dX12_gift_7 : decode cX12_gift 7 = .ok (.i2l, 1) := by decide +kernel
theorem dX12_gift_8 : decode cX12_gift 8 = .ok (.iload_n 2, 1) := by decide +kernel
theorem dX12_gift_9 : decode cX12_gift 9 = .ok (.i2l, 1) := by decide +kernel
theorem dX12_gift_10 : decode cX12_gift 10 = .ok (.iload_n 3, 1) := by decide +kernel
theorem dX12_gift_11 : decode cX12_gift 11 = .ok (.i2l, 1) := by decide +kernel
theorem dX12_gift_12 : decode cX12_gift 12 = .ok (.invokevirtual 338, 3) := by decide +kernel
theorem dX12_gift_15 : decode cX12_gift 15 = .ok (.istore 4, 2) := by decide +kernel
theorem dX12_gift_17 : decode cX12_gift 17 = .ok (.iload 4, 2) := by decide +kernel
theorem dX12_gift_19 : decode cX12_gift 19 = .ok (.ifCond .eq 7, 3) := by decide +kernel
theorem dX12_gift_22 : decode cX12_gift 22 = .ok (.iload 4, 2) := by decide +kernel
theorem dX12_gift_24 : decode cX12_gift 24 = .ok (.ineg, 1) := by decide +kernel
theorem dX12_gift_25 : decode cX12_gift 25 = .ok (.ireturn, 1) := by decide +kernel
theorem dX12_gift_26 : decode cX12_gift 26 = .ok (.aload_n 0, 1) := by decide +kernel
theorem dX12_gift_27 : decode cX12_gift 27 = .ok (.invokevirtual 332, 3) := by decide +kernel
theorem dX12_gift_30 : decode cX12_gift 30 = .ok (.aload_n 0, 1) := by decide +kernel
theorem dX12_gift_31 : decode cX12_gift 31 = .ok (.iload_n 1, 1) := by decide +kernel
theorem dX12_gift_32 : decode cX12_gift 32 = .ok (.iload_n 2, 1) := by decide +kernel
theorem dX12_gift_33 : decode cX12_gift 33 = .ok (.iload_n 3, 1) := by decide +kernel
theorem dX12_gift_34 : decode cX12_gift 34 = .ok (.invokevirtual 342, 3) := by decide +kernel
theorem dX12_gift_37 : decode cX12_gift 37 = .ok (.aload_n 0, 1) := by decide +kernel
theorem dX12_gift_38 : decode cX12_gift 38 = .ok (.getfield 9, 3) := by decide +kernel
theorem dX12_gift_41 : decode cX12_gift 41 = .ok (.bipush 22, 2) := by decide +kernel
theorem dX12_gift_43 : decode cX12_gift 43 = .ok (.iload_n 1, 1) := by decide +kernel
theorem dX12_gift_44 : decode cX12_gift 44 = .ok (.iadd, 1) := by decide +kernel
theorem dX12_gift_45 : decode cX12_gift 45 = .ok (.iaload, 1) := by decide +kernel
theorem dX12_gift_46 : decode cX12_gift 46 = .ok (.ireturn, 1) := by decide +kernel
theorem dX12_plant_0 : decode cX12_plant 0 = .ok (.aload_n 0, 1) := by decide +kernel
theorem dX12_plant_1 : decode cX12_plant 1 = .ok (.aload_n 0, 1) := by decide +kernel
theorem dX12_plant_2 : decode cX12_plant 2 = .ok (.iload_n 1, 1) := by decide +kernel
theorem dX12_plant_3 : decode cX12_plant 3 = .ok (.i2l, 1) := by decide +kernel
theorem dX12_plant_4 : decode cX12_plant 4 = .ok (.invokevirtual 313, 3) := by decide +kernel
theorem dX12_plant_7 : decode cX12_plant 7 = .ok (.ifCond .ne 7, 3) := by decide +kernel
theorem dX12_plant_10 : decode cX12_plant 10 = .ok (.iconst 1, 1) := by decide +kernel
theorem dX12_plant_11 : decode cX12_plant 11 = .ok (.goto 20, 3) := by decide +kernel
theorem dX12_plant_14 : decode cX12_plant 14 = .ok (.iload_n 2, 1) := by decide +kernel
theorem dX12_plant_15 : decode cX12_plant 15 = .ok (.i2l, 1) := by decide +kernel
theorem dX12_plant_16 : decode cX12_plant 16 = .ok (.lconst 0, 1) := by decide +kernel
theorem dX12_plant_17 : decode cX12_plant 17 = .ok (.ldc2_w 346, 3) := by decide +kernel
theorem dX12_plant_20 : decode cX12_plant 20 = .ok (.invokestatic 128, 3) := by decide +kernel
theorem dX12_plant_23 : decode cX12_plant 23 = .ok (.ifCond .eq 7, 3) := by decide +kernel
theorem dX12_plant_26 : decode cX12_plant 26 = .ok (.iconst 0, 1) := by decide +kernel
theorem dX12_plant_27 : decode cX12_plant 27 = .ok (.goto 4, 3) := by decide +kernel
theorem dX12_plant_30 : decode cX12_plant 30 = .ok (.iconst 2, 1) := by decide +kernel
theorem dX12_plant_31 : decode cX12_plant 31 = .ok (.putfield 67, 3) := by decide +kernel
theorem dX12_plant_34 : decode cX12_plant 34 = .ok (.aload_n 0, 1) := by decide +kernel
theorem dX12_plant_35 : decode cX12_plant 35 = .ok (.getfield 67, 3) := by decide +kernel
theorem dX12_plant_38 : decode cX12_plant 38 = .ok (.ifCond .le 5, 3) := by decide +kernel
theorem dX12_plant_41 : decode cX12_plant 41 = .ok (.iconst 0, 1) := by decide +kernel
theorem dX12_plant_42 : decode cX12_plant 42 = .ok (.ireturn, 1) := by decide +kernel
theorem dX12_plant_43 : decode cX12_plant 43 = .ok (.aload_n 0, 1) := by decide +kernel
theorem dX12_plant_44 : decode cX12_plant 44 = .ok (.invokevirtual 332, 3) := by decide +kernel
theorem dX12_plant_47 : decode cX12_plant 47 = .ok (.aload_n 0, 1) := by decide +kernel
theorem dX12_plant_48 : decode cX12_plant 48 = .ok (.getfield 9, 3) := by decide +kernel
theorem dX12_plant_51 : decode cX12_plant 51 = .ok (.bipush 43, 2) := by decide +kernel
theorem dX12_plant_53 : decode cX12_plant 53 = .ok (.iload_n 1, 1) := by decide +kernel
theorem dX12_plant_54 : decode cX12_plant 54 = .ok (.iadd, 1) := by decide +kernel
theorem dX12_plant_55 : decode cX12_plant 55 = .ok (.iaload, 1) := by decide +kernel
theorem dX12_plant_56 : decode cX12_plant 56 = .ok (.istore_n 3, 1) := by decide +kernel
theorem dX12_plant_57 : decode cX12_plant 57 = .ok (.aload_n 0, 1) := by decide +kernel
theorem dX12_plant_58 : decode cX12_plant 58 = .ok (.getfield 9, 3) := by decide +kernel
theorem dX12_plant_61 : decode cX12_plant 61 = .ok (.bipush 43, 2) := by decide +kernel
theorem dX12_plant_63 : decode cX12_plant 63 = .ok (.iload_n 1, 1) := by decide +kernel
theorem dX12_plant_64 : decode cX12_plant 64 = .ok (.iadd, 1) := by decide +kernel
theorem dX12_plant_65 : decode cX12_plant 65 = .ok (.iload_n 2, 1) := by decide +kernel
theorem dX12_plant_66 : decode cX12_plant 66 = .ok (.iastore, 1) := by decide +kernel
theorem dX12_plant_67 : decode cX12_plant 67 = .ok (.iload_n 3, 1) := by decide +kernel
theorem dX12_plant_68 : decode cX12_plant 68 = .ok (.ireturn, 1) := by decide +kernel
theorem dX12_payOff_0 : decode cX12_payOff 0 = .ok (.aload_n 0, 1) := by decide +kernel
theorem dX12_payOff_1 : decode cX12_payOff 1 = .ok (.iconst 0, 1) := by decide +kernel
theorem dX12_payOff_2 : decode cX12_payOff 2 = .ok (.putfield 67, 3) := by decide +kernel
theorem dX12_payOff_5 : decode cX12_payOff 5 = .ok (.aload_n 0, 1) := by decide +kernel
theorem dX12_payOff_6 : decode cX12_payOff 6 = .ok (.iload_n 1, 1) := by decide +kernel
theorem dX12_payOff_7 : decode cX12_payOff 7 = .ok (.i2l, 1) := by decide +kernel
theorem dX12_payOff_8 : decode cX12_payOff 8 = .ok (.iload_n 2, 1) := by decide +kernel
theorem dX12_payOff_9 : decode cX12_payOff 9 = .ok (.i2l, 1) := by decide +kernel
theorem dX12_payOff_10 : decode cX12_payOff 10 = .ok (.invokevirtual 348, 3) := by decide +kernel
theorem dX12_payOff_13 : decode cX12_payOff 13 = .ok (.istore_n 3, 1) := by decide +kernel
theorem dX12_payOff_14 : decode cX12_payOff 14 = .ok (.iload_n 3, 1) := by decide +kernel
theorem dX12_payOff_15 : decode cX12_payOff 15 = .ok (.ifCond .eq 6, 3) := by decide +kernel
theorem dX12_payOff_18 : decode cX12_payOff 18 = .ok (.iload_n 3, 1) := by decide +kernel
theorem dX12_payOff_19 : decode cX12_payOff 19 = .ok (.ineg, 1) := by decide +kernel
theorem dX12_payOff_20 : decode cX12_payOff 20 = .ok (.ireturn, 1) := by decide +kernel
theorem dX12_payOff_21 : decode cX12_payOff 21 = .ok (.aload_n 0, 1) := by decide +kernel
theorem dX12_payOff_22 : decode cX12_payOff 22 = .ok (.invokevirtual 332, 3) := by decide +kernel
theorem dX12_payOff_25 : decode cX12_payOff 25 = .ok (.aload_n 0, 1) := by decide +kernel
theorem dX12_payOff_26 : decode cX12_payOff 26 = .ok (.iload_n 1, 1) := by decide +kernel
theorem dX12_payOff_27 : decode cX12_payOff 27 = .ok (.iload_n 2, 1) := by decide +kernel
theorem dX12_payOff_28 : decode cX12_payOff 28 = .ok (.invokevirtual 351, 3) := by decide +kernel
theorem dX12_payOff_31 : decode cX12_payOff 31 = .ok (.ireturn, 1) := by decide +kernel
theorem dX12_quarters_0 : decode cX12_quarters 0 = .ok (.aload_n 0, 1) := by decide +kernel
theorem dX12_quarters_1 : decode cX12_quarters 1 = .ok (.iconst 0, 1) := by decide +kernel
theorem dX12_quarters_2 : decode cX12_quarters 2 = .ok (.putfield 67, 3) := by decide +kernel
theorem dX12_quarters_5 : decode cX12_quarters 5 = .ok (.iload_n 1, 1) := by decide +kernel
theorem dX12_quarters_6 : decode cX12_quarters 6 = .ok (.i2l, 1) := by decide +kernel
theorem dX12_quarters_7 : decode cX12_quarters 7 = .ok (.lconst 1, 1) := by decide +kernel
theorem dX12_quarters_8 : decode cX12_quarters 8 = .ok (.ldc2_w 354, 3) := by decide +kernel
theorem dX12_quarters_11 : decode cX12_quarters 11 = .ok (.invokestatic 128, 3) := by decide +kernel
theorem dX12_quarters_14 : decode cX12_quarters 14 = .ok (.ifCond .ne 9, 3) := by decide +kernel
theorem dX12_quarters_17 : decode cX12_quarters 17 = .ok (.aload_n 0, 1) := by decide +kernel
theorem dX12_quarters_18 : decode cX12_quarters 18 = .ok (.iconst 1, 1) := by decide +kernel
theorem dX12_quarters_19 : decode cX12_quarters 19 = .ok (.invokevirtual 234, 3) := by decide +kernel
theorem dX12_quarters_22 : decode cX12_quarters 22 = .ok (.ireturn, 1) := by decide +kernel
theorem dX12_quarters_23 : decode cX12_quarters 23 = .ok (.aload_n 0, 1) := by decide +kernel
theorem dX12_quarters_24 : decode cX12_quarters 24 = .ok (.invokevirtual 332, 3) := by decide +kernel
theorem dX12_quarters_27 : decode cX12_quarters 27 = .ok (.iconst 0, 1) := by decide +kernel
theorem dX12_quarters_28 : decode cX12_quarters 28 = .ok (.istore_n 2, 1) := by decide +kernel
theorem dX12_quarters_29 : decode cX12_quarters 29 = .ok (.iconst 0, 1) := by decide +kernel
theorem dX12_quarters_30 : decode cX12_quarters 30 = .ok (.istore_n 3, 1) := by decide +kernel
theorem dX12_quarters_31 : decode cX12_quarters 31 = .ok (.iload_n 3, 1) := by decide +kernel
theorem dX12_quarters_32 : decode cX12_quarters 32 = .ok (.iload_n 1, 1) := by decide +kernel
theorem dX12_quarters_33 : decode cX12_quarters 33 = .ok (.if_icmp .ge 20, 3) := by decide +kernel
theorem dX12_quarters_36 : decode cX12_quarters 36 = .ok (.aload_n 0, 1) := by decide +kernel
theorem dX12_quarters_37 : decode cX12_quarters 37 = .ok (.invokevirtual 356, 3) := by decide +kernel
theorem dX12_quarters_40 : decode cX12_quarters 40 = .ok (.iload_n 2, 1) := by decide +kernel
theorem dX12_quarters_41 : decode cX12_quarters 41 = .ok (.aload_n 0, 1) := by decide +kernel
theorem dX12_quarters_42 : decode cX12_quarters 42 = .ok (.getfield 288, 3) := by decide +kernel
theorem dX12_quarters_45 : decode cX12_quarters 45 = .ok (.iadd, 1) := by decide +kernel
theorem dX12_quarters_46 : decode cX12_quarters 46 = .ok (.istore_n 2, 1) := by decide +kernel
theorem dX12_quarters_47 : decode cX12_quarters 47 = .ok (.iinc 3 1, 3) := by decide +kernel
theorem dX12_quarters_50 : decode cX12_quarters 50 = .ok (.goto (-19), 3) := by decide +kernel
theorem dX12_quarters_53 : decode cX12_quarters 53 = .ok (.iload_n 2, 1) := by decide +kernel
theorem dX12_quarters_54 : decode cX12_quarters 54 = .ok (.ireturn, 1) := by decide +kernel
theorem dX12_undo_0 : decode cX12_undo 0 = .ok (.aload_n 0, 1) := by decide +kernel
theorem dX12_undo_1 : decode cX12_undo 1 = .ok (.iconst 0, 1) := by decide +kernel
theorem dX12_undo_2 : decode cX12_undo 2 = .ok (.putfield 67, 3) := by decide +kernel
theorem dX12_undo_5 : decode cX12_undo 5 = .ok (.iload_n 1, 1) := by decide +kernel
theorem dX12_undo_6 : decode cX12_undo 6 = .ok (.i2l, 1) := by decide +kernel
theorem dX12_undo_7 : decode cX12_undo 7 = .ok (.lconst 1, 1) := by decide +kernel
theorem dX12_undo_8 : decode cX12_undo 8 = .ok (.ldc2_w 358, 3) := by decide +kernel
theorem dX12_undo_11 : decode cX12_undo 11 = .ok (.invokestatic 128, 3) := by decide +kernel
theorem dX12_undo_14 : decode cX12_undo 14 = .ok (.ifCond .eq 14, 3) := by decide +kernel
theorem dX12_undo_17 : decode cX12_undo 17 = .ok (.iload_n 1, 1) := by decide +kernel
theorem dX12_undo_18 : decode cX12_undo 18 = .ok (.aload_n 0, 1) := by decide +kernel
theorem dX12_undo_19 : decode cX12_undo 19 = .ok (.getfield 9, 3) := by decide +kernel
theorem dX12_undo_22 : decode cX12_undo 22 = .ok (.bipush 7, 2) := by decide +kernel
theorem dX12_undo_24 : decode cX12_undo 24 = .ok (.iaload, 1) := by decide +kernel
theorem dX12_undo_25 : decode cX12_undo 25 = .ok (.if_icmp .le 9, 3) := by decide +kernel
theorem dX12_undo_28 : decode cX12_undo 28 = .ok (.aload_n 0, 1) := by decide +kernel
theorem dX12_undo_29 : decode cX12_undo 29 = .ok (.iconst 1, 1) := by decide +kernel
theorem dX12_undo_30 : decode cX12_undo 30 = .ok (.invokevirtual 234, 3) := by decide +kernel
theorem dX12_undo_33 : decode cX12_undo 33 = .ok (.ireturn, 1) := by decide +kernel
theorem dX12_undo_34 : decode cX12_undo 34 = .ok (.aload_n 0, 1) := by decide +kernel
theorem dX12_undo_35 : decode cX12_undo 35 = .ok (.getfield 9, 3) := by decide +kernel
theorem dX12_undo_38 : decode cX12_undo 38 = .ok (.bipush 7, 2) := by decide +kernel
theorem dX12_undo_40 : decode cX12_undo 40 = .ok (.dup2, 1) := by decide +kernel
theorem dX12_undo_41 : decode cX12_undo 41 = .ok (.iaload, 1) := by decide +kernel
theorem dX12_undo_42 : decode cX12_undo 42 = .ok (.iload_n 1, 1) := by decide +kernel
theorem dX12_undo_43 : decode cX12_undo 43 = .ok (.isub, 1) := by decide +kernel
theorem dX12_undo_44 : decode cX12_undo 44 = .ok (.iastore, 1) := by decide +kernel
theorem dX12_undo_45 : decode cX12_undo 45 = .ok (.iconst 0, 1) := by decide +kernel
theorem dX12_undo_46 : decode cX12_undo 46 = .ok (.istore_n 2, 1) := by decide +kernel
theorem dX12_undo_47 : decode cX12_undo 47 = .ok (.iload_n 2, 1) := by decide +kernel
theorem dX12_undo_48 : decode cX12_undo 48 = .ok (.bipush 44, 2) := by decide +kernel
theorem dX12_undo_50 : decode cX12_undo 50 = .ok (.if_icmp .ge 38, 3) := by decide +kernel
theorem dX12_undo_53 : decode cX12_undo 53 = .ok (.aload_n 0, 1) := by decide +kernel
theorem dX12_undo_54 : decode cX12_undo 54 = .ok (.getfield 9, 3) := by decide +kernel
theorem dX12_undo_57 : decode cX12_undo 57 = .ok (.bipush 8, 2) := by decide +kernel
theorem dX12_undo_59 : decode cX12_undo 59 = .ok (.iload_n 2, 1) := by decide +kernel
theorem dX12_undo_60 : decode cX12_undo 60 = .ok (.iadd, 1) := by decide +kernel
theorem dX12_undo_61 : decode cX12_undo 61 = .ok (.aload_n 0, 1) := by decide +kernel
theorem dX12_undo_62 : decode cX12_undo 62 = .ok (.getfield 9, 3) := by decide +kernel
theorem dX12_undo_65 : decode cX12_undo 65 = .ok (.bipush 96, 2) := by decide +kernel
theorem dX12_undo_67 : decode cX12_undo 67 = .ok (.bipush 44, 2) := by decide +kernel
theorem dX12_undo_69 : decode cX12_undo 69 = .ok (.aload_n 0, 1) := by decide +kernel
theorem dX12_undo_70 : decode cX12_undo 70 = .ok (.getfield 9, 3) := by decide +kernel
theorem dX12_undo_73 : decode cX12_undo 73 = .ok (.bipush 7, 2) := by decide +kernel
theorem dX12_undo_75 : decode cX12_undo 75 = .ok (.iaload, 1) := by decide +kernel
theorem dX12_undo_76 : decode cX12_undo 76 = .ok (.imul, 1) := by decide +kernel
theorem dX12_undo_77 : decode cX12_undo 77 = .ok (.iadd, 1) := by decide +kernel
theorem dX12_undo_78 : decode cX12_undo 78 = .ok (.iload_n 2, 1) := by decide +kernel
theorem dX12_undo_79 : decode cX12_undo 79 = .ok (.iadd, 1) := by decide +kernel
theorem dX12_undo_80 : decode cX12_undo 80 = .ok (.iaload, 1) := by decide +kernel
theorem dX12_undo_81 : decode cX12_undo 81 = .ok (.iastore, 1) := by decide +kernel
theorem dX12_undo_82 : decode cX12_undo 82 = .ok (.iinc 2 1, 3) := by decide +kernel
theorem dX12_undo_85 : decode cX12_undo 85 = .ok (.goto (-38), 3) := by decide +kernel
theorem dX12_undo_88 : decode cX12_undo 88 = .ok (.aload_n 0, 1) := by decide +kernel
theorem dX12_undo_89 : decode cX12_undo 89 = .ok (.getfield 9, 3) := by decide +kernel
theorem dX12_undo_92 : decode cX12_undo 92 = .ok (.bipush 7, 2) := by decide +kernel
theorem dX12_undo_94 : decode cX12_undo 94 = .ok (.iaload, 1) := by decide +kernel
theorem dX12_undo_95 : decode cX12_undo 95 = .ok (.ireturn, 1) := by decide +kernel
theorem dX12_trayFault_0 : decode cX12_trayFault 0 = .ok (.iload_n 1, 1) := by decide +kernel
theorem dX12_trayFault_1 : decode cX12_trayFault 1 = .ok (.invokestatic 360, 3) := by decide +kernel
theorem dX12_trayFault_4 : decode cX12_trayFault 4 = .ok (.ifCond .ne 7, 3) := by decide +kernel
theorem dX12_trayFault_7 : decode cX12_trayFault 7 = .ok (.iconst 1, 1) := by decide +kernel
theorem dX12_trayFault_8 : decode cX12_trayFault 8 = .ok (.goto 18, 3) := by decide +kernel
theorem dX12_trayFault_11 : decode cX12_trayFault 11 = .ok (.aload_n 0, 1) := by decide +kernel
theorem dX12_trayFault_12 : decode cX12_trayFault 12 = .ok (.getfield 57, 3) := by decide +kernel
theorem dX12_trayFault_15 : decode cX12_trayFault 15 = .ok (.iload_n 1, 1) := by decide +kernel
theorem dX12_trayFault_16 : decode cX12_trayFault 16 = .ok (.iaload, 1) := by decide +kernel
theorem dX12_trayFault_17 : decode cX12_trayFault 17 = .ok (.iconst (-1), 1) := by decide +kernel
theorem dX12_trayFault_18 : decode cX12_trayFault 18 = .ok (.if_icmp .ne 7, 3) := by decide +kernel
theorem dX12_trayFault_21 : decode cX12_trayFault 21 = .ok (.iconst 2, 1) := by decide +kernel
theorem dX12_trayFault_22 : decode cX12_trayFault 22 = .ok (.goto 4, 3) := by decide +kernel
theorem dX12_trayFault_25 : decode cX12_trayFault 25 = .ok (.iconst 0, 1) := by decide +kernel
theorem dX12_trayFault_26 : decode cX12_trayFault 26 = .ok (.ireturn, 1) := by decide +kernel
theorem dX12_whyTold_0 : decode cX12_whyTold 0 = .ok (.lload_n 1, 1) := by decide +kernel
theorem dX12_whyTold_1 : decode cX12_whyTold 1 = .ok (.ldc2_w 363, 3) := by decide +kernel
theorem dX12_whyTold_4 : decode cX12_whyTold 4 = .ok (.lcmp, 1) := by decide +kernel
theorem dX12_whyTold_5 : decode cX12_whyTold 5 = .ok (.ifCond .ne 5, 3) := by decide +kernel
theorem dX12_whyTold_8 : decode cX12_whyTold 8 = .ok (.iconst 0, 1) := by decide +kernel
theorem dX12_whyTold_9 : decode cX12_whyTold 9 = .ok (.ireturn, 1) := by decide +kernel
theorem dX12_whyTold_10 : decode cX12_whyTold 10 = .ok (.lload_n 1, 1) := by decide +kernel
theorem dX12_whyTold_11 : decode cX12_whyTold 11 = .ok (.lconst 0, 1) := by decide +kernel
theorem dX12_whyTold_12 : decode cX12_whyTold 12 = .ok (.ldc2_w 354, 3) := by decide +kernel
theorem dX12_whyTold_15 : decode cX12_whyTold 15 = .ok (.invokestatic 128, 3) := by decide +kernel
theorem dX12_whyTold_18 : decode cX12_whyTold 18 = .ok (.ifCond .eq 18, 3) := by decide +kernel
theorem dX12_whyTold_21 : decode cX12_whyTold 21 = .ok (.aload_n 0, 1) := by decide +kernel
theorem dX12_whyTold_22 : decode cX12_whyTold 22 = .ok (.lload_n 1, 1) := by decide +kernel
theorem dX12_whyTold_23 : decode cX12_whyTold 23 = .ok (.ldc2_w 358, 3) := by decide +kernel
theorem dX12_whyTold_26 : decode cX12_whyTold 26 = .ok (.ldiv, 1) := by decide +kernel
theorem dX12_whyTold_27 : decode cX12_whyTold 27 = .ok (.lload_n 1, 1) := by decide +kernel
theorem dX12_whyTold_28 : decode cX12_whyTold 28 = .ok (.ldc2_w 358, 3) := by decide +kernel
theorem dX12_whyTold_31 : decode cX12_whyTold 31 = .ok (.lrem, 1) := by decide +kernel
theorem dX12_whyTold_32 : decode cX12_whyTold 32 = .ok (.invokevirtual 323, 3) := by decide +kernel
theorem dX12_whyTold_35 : decode cX12_whyTold 35 = .ok (.ireturn, 1) := by decide +kernel
theorem dX12_whyTold_36 : decode cX12_whyTold 36 = .ok (.lload_n 1, 1) := by decide +kernel
theorem dX12_whyTold_37 : decode cX12_whyTold 37 = .ok (.ldc2_w 365, 3) := by decide +kernel
theorem dX12_whyTold_40 : decode cX12_whyTold 40 = .ok (.ldc2_w 367, 3) := by decide +kernel
theorem dX12_whyTold_43 : decode cX12_whyTold 43 = .ok (.invokestatic 128, 3) := by decide +kernel
theorem dX12_whyTold_46 : decode cX12_whyTold 46 = .ok (.ifCond .eq 21, 3) := by decide +kernel
theorem dX12_whyTold_49 : decode cX12_whyTold 49 = .ok (.aload_n 0, 1) := by decide +kernel
theorem dX12_whyTold_50 : decode cX12_whyTold 50 = .ok (.lload_n 1, 1) := by decide +kernel
theorem dX12_whyTold_51 : decode cX12_whyTold 51 = .ok (.ldc2_w 365, 3) := by decide +kernel
theorem dX12_whyTold_54 : decode cX12_whyTold 54 = .ok (.lsub, 1) := by decide +kernel
theorem dX12_whyTold_55 : decode cX12_whyTold 55 = .ok (.invokevirtual 313, 3) := by decide +kernel
theorem dX12_whyTold_58 : decode cX12_whyTold 58 = .ok (.ifCond .eq 7, 3) := by decide +kernel
theorem dX12_whyTold_61 : decode cX12_whyTold 61 = .ok (.iconst 0, 1) := by decide +kernel
theorem dX12_whyTold_62 : decode cX12_whyTold 62 = .ok (.goto 4, 3) := by decide +kernel
theorem dX12_whyTold_65 : decode cX12_whyTold 65 = .ok (.iconst 1, 1) := by decide +kernel
theorem dX12_whyTold_66 : decode cX12_whyTold 66 = .ok (.ireturn, 1) := by decide +kernel
theorem dX12_whyTold_67 : decode cX12_whyTold 67 = .ok (.lload_n 1, 1) := by decide +kernel
theorem dX12_whyTold_68 : decode cX12_whyTold 68 = .ok (.ldc2_w 369, 3) := by decide +kernel
theorem dX12_whyTold_71 : decode cX12_whyTold 71 = .ok (.ldc2_w 371, 3) := by decide +kernel
theorem dX12_whyTold_74 : decode cX12_whyTold 74 = .ok (.invokestatic 128, 3) := by decide +kernel
theorem dX12_whyTold_77 : decode cX12_whyTold 77 = .ok (.ifCond .eq 14, 3) := by decide +kernel
theorem dX12_whyTold_80 : decode cX12_whyTold 80 = .ok (.aload_n 0, 1) := by decide +kernel
theorem dX12_whyTold_81 : decode cX12_whyTold 81 = .ok (.lload_n 1, 1) := by decide +kernel
theorem dX12_whyTold_82 : decode cX12_whyTold 82 = .ok (.ldc2_w 369, 3) := by decide +kernel
theorem dX12_whyTold_85 : decode cX12_whyTold 85 = .ok (.lsub, 1) := by decide +kernel
theorem dX12_whyTold_86 : decode cX12_whyTold 86 = .ok (.lconst 1, 1) := by decide +kernel
theorem dX12_whyTold_87 : decode cX12_whyTold 87 = .ok (.invokevirtual 348, 3) := by decide +kernel
theorem dX12_whyTold_90 : decode cX12_whyTold 90 = .ok (.ireturn, 1) := by decide +kernel
theorem dX12_whyTold_91 : decode cX12_whyTold 91 = .ok (.lload_n 1, 1) := by decide +kernel
theorem dX12_whyTold_92 : decode cX12_whyTold 92 = .ok (.ldc2_w 373, 3) := by decide +kernel
theorem dX12_whyTold_95 : decode cX12_whyTold 95 = .ok (.ldc2_w 375, 3) := by decide +kernel
theorem dX12_whyTold_98 : decode cX12_whyTold 98 = .ok (.invokestatic 128, 3) := by decide +kernel
theorem dX12_whyTold_101 : decode cX12_whyTold 101 = .ok (.ifCond .eq 27, 3) := by decide +kernel
theorem dX12_whyTold_104 : decode cX12_whyTold 104 = .ok (.aload_n 0, 1) := by decide +kernel
theorem dX12_whyTold_105 : decode cX12_whyTold 105 = .ok (.lload_n 1, 1) := by decide +kernel
theorem dX12_whyTold_106 : decode cX12_whyTold 106 = .ok (.ldc2_w 373, 3) := by decide +kernel
theorem dX12_whyTold_109 : decode cX12_whyTold 109 = .ok (.lsub, 1) := by decide +kernel
theorem dX12_whyTold_110 : decode cX12_whyTold 110 = .ok (.ldc2_w 358, 3) := by decide +kernel
theorem dX12_whyTold_113 : decode cX12_whyTold 113 = .ok (.ldiv, 1) := by decide +kernel
theorem dX12_whyTold_114 : decode cX12_whyTold 114 = .ok (.lload_n 1, 1) := by decide +kernel
theorem dX12_whyTold_115 : decode cX12_whyTold 115 = .ok (.ldc2_w 358, 3) := by decide +kernel
theorem dX12_whyTold_118 : decode cX12_whyTold 118 = .ok (.lrem, 1) := by decide +kernel
theorem dX12_whyTold_119 : decode cX12_whyTold 119 = .ok (.ldc2_w 358, 3) := by decide +kernel
theorem dX12_whyTold_122 : decode cX12_whyTold 122 = .ok (.invokevirtual 338, 3) := by decide +kernel
theorem dX12_whyTold_125 : decode cX12_whyTold 125 = .ok (.goto 4, 3) := by decide +kernel
theorem dX12_whyTold_128 : decode cX12_whyTold 128 = .ok (.iconst 1, 1) := by decide +kernel
theorem dX12_whyTold_129 : decode cX12_whyTold 129 = .ok (.ireturn, 1) := by decide +kernel
theorem dX12_does_0 : decode cX12_does 0 = .ok (.iload_n 1, 1) := by decide +kernel
theorem dX12_does_1 : decode cX12_does 1 = .ok (.iconst (-1), 1) := by decide +kernel
theorem dX12_does_2 : decode cX12_does 2 = .ok (.if_icmp .ne 10, 3) := by decide +kernel
theorem dX12_does_5 : decode cX12_does 5 = .ok (.aload_n 0, 1) := by decide +kernel
theorem dX12_does_6 : decode cX12_does 6 = .ok (.invokevirtual 356, 3) := by decide +kernel
theorem dX12_does_9 : decode cX12_does 9 = .ok (.goto 88, 3) := by decide +kernel
theorem dX12_does_12 : decode cX12_does 12 = .ok (.iload_n 1, 1) := by decide +kernel
theorem dX12_does_13 : decode cX12_does 13 = .ok (.bipush 100, 2) := by decide +kernel
theorem dX12_does_15 : decode cX12_does 15 = .ok (.if_icmp .ge 18, 3) := by decide +kernel
theorem dX12_does_18 : decode cX12_does 18 = .ok (.aload_n 0, 1) := by decide +kernel
theorem dX12_does_19 : decode cX12_does 19 = .ok (.iload_n 1, 1) := by decide +kernel
theorem dX12_does_20 : decode cX12_does 20 = .ok (.bipush 10, 2) := by decide +kernel
theorem dX12_does_22 : decode cX12_does 22 = .ok (.idiv, 1) := by decide +kernel
theorem dX12_does_23 : decode cX12_does 23 = .ok (.iload_n 1, 1) := by decide +kernel
theorem dX12_does_24 : decode cX12_does 24 = .ok (.bipush 10, 2) := by decide +kernel
theorem dX12_does_26 : decode cX12_does 26 = .ok (.irem, 1) := by decide +kernel
theorem dX12_does_27 : decode cX12_does 27 = .ok (.invokevirtual 335, 3) := by decide +kernel
theorem dX12_does_30 : decode cX12_does 30 = .ok (.goto 67, 3) := by decide +kernel
theorem dX12_does_33 : decode cX12_does 33 = .ok (.iload_n 1, 1) := by decide +kernel
theorem dX12_does_34 : decode cX12_does 34 = .ok (.sipush 200, 3) := by decide +kernel
theorem dX12_does_37 : decode cX12_does 37 = .ok (.if_icmp .ge 19, 3) := by decide +kernel
theorem dX12_does_40 : decode cX12_does 40 = .ok (.aload_n 0, 1) := by decide +kernel
theorem dX12_does_41 : decode cX12_does 41 = .ok (.getfield 9, 3) := by decide +kernel
theorem dX12_does_44 : decode cX12_does 44 = .ok (.bipush 43, 2) := by decide +kernel
theorem dX12_does_46 : decode cX12_does 46 = .ok (.iload_n 1, 1) := by decide +kernel
theorem dX12_does_47 : decode cX12_does 47 = .ok (.iadd, 1) := by decide +kernel
theorem dX12_does_48 : decode cX12_does 48 = .ok (.bipush 100, 2) := by decide +kernel
theorem dX12_does_50 : decode cX12_does 50 = .ok (.isub, 1) := by decide +kernel
theorem dX12_does_51 : decode cX12_does 51 = .ok (.iconst 4, 1) := by decide +kernel
theorem dX12_does_52 : decode cX12_does 52 = .ok (.iastore, 1) := by decide +kernel
theorem dX12_does_53 : decode cX12_does 53 = .ok (.goto 44, 3) := by decide +kernel
theorem dX12_does_56 : decode cX12_does 56 = .ok (.iload_n 1, 1) := by decide +kernel
theorem dX12_does_57 : decode cX12_does 57 = .ok (.sipush 300, 3) := by decide +kernel
theorem dX12_does_60 : decode cX12_does 60 = .ok (.if_icmp .ge 19, 3) := by decide +kernel
theorem dX12_does_63 : decode cX12_does 63 = .ok (.aload_n 0, 1) := by decide +kernel
theorem dX12_does_64 : decode cX12_does 64 = .ok (.iload_n 1, 1) := by decide +kernel
theorem dX12_does_65 : decode cX12_does 65 = .ok (.sipush 200, 3) := by decide +kernel
theorem dX12_does_68 : decode cX12_does 68 = .ok (.isub, 1) := by decide +kernel
theorem dX12_does_69 : decode cX12_does 69 = .ok (.ldc_w 278, 3) := by decide +kernel
theorem dX12_does_72 : decode cX12_does 72 = .ok (.invokevirtual 351, 3) := by decide +kernel
theorem dX12_does_75 : decode cX12_does 75 = .ok (.pop, 1) := by decide +kernel
theorem dX12_does_76 : decode cX12_does 76 = .ok (.goto 21, 3) := by decide +kernel
theorem dX12_does_79 : decode cX12_does 79 = .ok (.aload_n 0, 1) := by decide +kernel
theorem dX12_does_80 : decode cX12_does 80 = .ok (.iload_n 1, 1) := by decide +kernel
theorem dX12_does_81 : decode cX12_does 81 = .ok (.sipush 300, 3) := by decide +kernel
theorem dX12_does_84 : decode cX12_does 84 = .ok (.isub, 1) := by decide +kernel
theorem dX12_does_85 : decode cX12_does 85 = .ok (.bipush 10, 2) := by decide +kernel
theorem dX12_does_87 : decode cX12_does 87 = .ok (.idiv, 1) := by decide +kernel
theorem dX12_does_88 : decode cX12_does 88 = .ok (.iload_n 1, 1) := by decide +kernel
theorem dX12_does_89 : decode cX12_does 89 = .ok (.bipush 10, 2) := by decide +kernel
theorem dX12_does_91 : decode cX12_does 91 = .ok (.irem, 1) := by decide +kernel
theorem dX12_does_92 : decode cX12_does 92 = .ok (.bipush 10, 2) := by decide +kernel
theorem dX12_does_94 : decode cX12_does 94 = .ok (.invokevirtual 342, 3) := by decide +kernel
theorem dX12_does_97 : decode cX12_does 97 = .ok (.return_, 1) := by decide +kernel
theorem dX12_sumOf_0 : decode cX12_sumOf 0 = .ok (.iconst 0, 1) := by decide +kernel
theorem dX12_sumOf_1 : decode cX12_sumOf 1 = .ok (.istore_n 2, 1) := by decide +kernel
theorem dX12_sumOf_2 : decode cX12_sumOf 2 = .ok (.iconst 0, 1) := by decide +kernel
theorem dX12_sumOf_3 : decode cX12_sumOf 3 = .ok (.istore_n 3, 1) := by decide +kernel
theorem dX12_sumOf_4 : decode cX12_sumOf 4 = .ok (.iload_n 3, 1) := by decide +kernel
theorem dX12_sumOf_5 : decode cX12_sumOf 5 = .ok (.aload_n 0, 1) := by decide +kernel
theorem dX12_sumOf_6 : decode cX12_sumOf 6 = .ok (.invokevirtual 249, 3) := by decide +kernel
theorem dX12_sumOf_9 : decode cX12_sumOf 9 = .ok (.if_icmp .ge 20, 3) := by decide +kernel
theorem dX12_sumOf_12 : decode cX12_sumOf 12 = .ok (.iload_n 2, 1) := by decide +kernel
theorem dX12_sumOf_13 : decode cX12_sumOf 13 = .ok (.aload_n 0, 1) := by decide +kernel
theorem dX12_sumOf_14 : decode cX12_sumOf 14 = .ok (.getfield 9, 3) := by decide +kernel
theorem dX12_sumOf_17 : decode cX12_sumOf 17 = .ok (.iload_n 1, 1) := by decide +kernel
theorem dX12_sumOf_18 : decode cX12_sumOf 18 = .ok (.iload_n 3, 1) := by decide +kernel
theorem dX12_sumOf_19 : decode cX12_sumOf 19 = .ok (.iadd, 1) := by decide +kernel
theorem dX12_sumOf_20 : decode cX12_sumOf 20 = .ok (.iaload, 1) := by decide +kernel
theorem dX12_sumOf_21 : decode cX12_sumOf 21 = .ok (.iadd, 1) := by decide +kernel
theorem dX12_sumOf_22 : decode cX12_sumOf 22 = .ok (.istore_n 2, 1) := by decide +kernel
theorem dX12_sumOf_23 : decode cX12_sumOf 23 = .ok (.iinc 3 1, 3) := by decide +kernel
theorem dX12_sumOf_26 : decode cX12_sumOf 26 = .ok (.goto (-22), 3) := by decide +kernel
theorem dX12_sumOf_29 : decode cX12_sumOf 29 = .ok (.iload_n 2, 1) := by decide +kernel
theorem dX12_sumOf_30 : decode cX12_sumOf 30 = .ok (.ireturn, 1) := by decide +kernel
theorem dX12_judge_0 : decode cX12_judge 0 = .ok (.aload_n 0, 1) := by decide +kernel
theorem dX12_judge_1 : decode cX12_judge 1 = .ok (.aload_n 0, 1) := by decide +kernel
theorem dX12_judge_2 : decode cX12_judge 2 = .ok (.iload_n 1, 1) := by decide +kernel
theorem dX12_judge_3 : decode cX12_judge 3 = .ok (.invokevirtual 377, 3) := by decide +kernel
theorem dX12_judge_6 : decode cX12_judge 6 = .ok (.putfield 67, 3) := by decide +kernel
theorem dX12_judge_9 : decode cX12_judge 9 = .ok (.aload_n 0, 1) := by decide +kernel
theorem dX12_judge_10 : decode cX12_judge 10 = .ok (.getfield 67, 3) := by decide +kernel
theorem dX12_judge_13 : decode cX12_judge 13 = .ok (.ifCond .ne 20, 3) := by decide +kernel
theorem dX12_judge_16 : decode cX12_judge 16 = .ok (.iload_n 2, 1) := by decide +kernel
theorem dX12_judge_17 : decode cX12_judge 17 = .ok (.i2l, 1) := by decide +kernel
theorem dX12_judge_18 : decode cX12_judge 18 = .ok (.lconst 0, 1) := by decide +kernel
theorem dX12_judge_19 : decode cX12_judge 19 = .ok (.ldc2_w 319, 3) := by decide +kernel
theorem dX12_judge_22 : decode cX12_judge 22 = .ok (.invokestatic 128, 3) := by decide +kernel
theorem dX12_judge_25 : decode cX12_judge 25 = .ok (.ifCond .ne 8, 3) := by decide +kernel
theorem dX12_judge_28 : decode cX12_judge 28 = .ok (.aload_n 0, 1) := by decide +kernel
theorem dX12_judge_29 : decode cX12_judge 29 = .ok (.iconst 3, 1) := by decide +kernel
theorem dX12_judge_30 : decode cX12_judge 30 = .ok (.putfield 67, 3) := by decide +kernel
theorem dX12_judge_33 : decode cX12_judge 33 = .ok (.aload_n 0, 1) := by decide +kernel
theorem dX12_judge_34 : decode cX12_judge 34 = .ok (.getfield 67, 3) := by decide +kernel
theorem dX12_judge_37 : decode cX12_judge 37 = .ok (.ifCond .le 5, 3) := by decide +kernel
theorem dX12_judge_40 : decode cX12_judge 40 = .ok (.iconst 0, 1) := by decide +kernel
theorem dX12_judge_41 : decode cX12_judge 41 = .ok (.ireturn, 1) := by decide +kernel
theorem dX12_judge_42 : decode cX12_judge 42 = .ok (.aload_n 0, 1) := by decide +kernel
theorem dX12_judge_43 : decode cX12_judge 43 = .ok (.invokevirtual 380, 3) := by decide +kernel
theorem dX12_judge_46 : decode cX12_judge 46 = .ok (.iconst (-1), 1) := by decide +kernel
theorem dX12_judge_47 : decode cX12_judge 47 = .ok (.istore_n 3, 1) := by decide +kernel
theorem dX12_judge_48 : decode cX12_judge 48 = .ok (.iconst 0, 1) := by decide +kernel
theorem dX12_judge_49 : decode cX12_judge 49 = .ok (.istore 4, 2) := by decide +kernel
theorem dX12_judge_51 : decode cX12_judge 51 = .ok (.iconst 0, 1) := by decide +kernel
theorem dX12_judge_52 : decode cX12_judge 52 = .ok (.istore 5, 2) := by decide +kernel
theorem dX12_judge_54 : decode cX12_judge 54 = .ok (.iload 5, 2) := by decide +kernel
theorem dX12_judge_56 : decode cX12_judge 56 = .ok (.aload_n 0, 1) := by decide +kernel
theorem dX12_judge_57 : decode cX12_judge 57 = .ok (.getfield 60, 3) := by decide +kernel
theorem dX12_judge_60 : decode cX12_judge 60 = .ok (.iload_n 1, 1) := by decide +kernel
theorem dX12_judge_61 : decode cX12_judge 61 = .ok (.iaload, 1) := by decide +kernel
theorem dX12_judge_62 : decode cX12_judge 62 = .ok (.if_icmp .ge 60, 3) := by decide +kernel
theorem dX12_judge_65 : decode cX12_judge 65 = .ok (.iload_n 3, 1) := by decide +kernel
theorem dX12_judge_66 : decode cX12_judge 66 = .ok (.iconst (-1), 1) := by decide +kernel
theorem dX12_judge_67 : decode cX12_judge 67 = .ok (.if_icmp .ne 55, 3) := by decide +kernel
theorem dX12_judge_70 : decode cX12_judge 70 = .ok (.aload_n 0, 1) := by decide +kernel
theorem dX12_judge_71 : decode cX12_judge 71 = .ok (.aload_n 0, 1) := by decide +kernel
theorem dX12_judge_72 : decode cX12_judge 72 = .ok (.getfield 63, 3) := by decide +kernel
theorem dX12_judge_75 : decode cX12_judge 75 = .ok (.bipush 30, 2) := by decide +kernel
theorem dX12_judge_77 : decode cX12_judge 77 = .ok (.iload_n 1, 1) := by decide +kernel
theorem dX12_judge_78 : decode cX12_judge 78 = .ok (.imul, 1) := by decide +kernel
theorem dX12_judge_79 : decode cX12_judge 79 = .ok (.iload 5, 2) := by decide +kernel
theorem dX12_judge_81 : decode cX12_judge 81 = .ok (.iadd, 1) := by decide +kernel
theorem dX12_judge_82 : decode cX12_judge 82 = .ok (.laload, 1) := by decide +kernel
theorem dX12_judge_83 : decode cX12_judge 83 = .ok (.invokevirtual 383, 3) := by decide +kernel
theorem dX12_judge_86 : decode cX12_judge 86 = .ok (.istore 4, 2) := by decide +kernel
theorem dX12_judge_88 : decode cX12_judge 88 = .ok (.iload 4, 2) := by decide +kernel
theorem dX12_judge_90 : decode cX12_judge 90 = .ok (.ifCond .ne 23, 3) := by decide +kernel
theorem dX12_judge_93 : decode cX12_judge 93 = .ok (.aload_n 0, 1) := by decide +kernel
theorem dX12_judge_94 : decode cX12_judge 94 = .ok (.aload_n 0, 1) := by decide +kernel
theorem dX12_judge_95 : decode cX12_judge 95 = .ok (.getfield 63, 3) := by decide +kernel
theorem dX12_judge_98 : decode cX12_judge 98 = .ok (.bipush 30, 2) := by decide +kernel
theorem dX12_judge_100 : decode cX12_judge 100 = .ok (.iload_n 1, 1) := by decide +kernel
theorem dX12_judge_101 : decode cX12_judge 101 = .ok (.imul, 1) := by decide +kernel
theorem dX12_judge_102 : decode cX12_judge 102 = .ok (.iload 5, 2) := by decide +kernel
theorem dX12_judge_104 : decode cX12_judge 104 = .ok (.iadd, 1) := by decide +kernel
theorem dX12_judge_105 : decode cX12_judge 105 = .ok (.laload, 1) := by decide +kernel
theorem dX12_judge_106 : decode cX12_judge 106 = .ok (.l2i, 1) := by decide +kernel
theorem dX12_judge_107 : decode cX12_judge 107 = .ok (.invokevirtual 386, 3) := by decide +kernel
theorem dX12_judge_110 : decode cX12_judge 110 = .ok (.goto 6, 3) := by decide +kernel
theorem dX12_judge_113 : decode cX12_judge 113 = .ok (.iload 5, 2) := by decide +kernel
theorem dX12_judge_115 : decode cX12_judge 115 = .ok (.istore_n 3, 1) := by decide +kernel
theorem dX12_judge_116 : decode cX12_judge 116 = .ok (.iinc 5 1, 3) := by decide +kernel
theorem dX12_judge_119 : decode cX12_judge 119 = .ok (.goto (-65), 3) := by decide +kernel
theorem dX12_judge_122 : decode cX12_judge 122 = .ok (.aload_n 0, 1) := by decide +kernel
theorem dX12_judge_123 : decode cX12_judge 123 = .ok (.bipush 36, 2) := by decide +kernel
theorem dX12_judge_125 : decode cX12_judge 125 = .ok (.invokevirtual 389, 3) := by decide +kernel
theorem dX12_judge_128 : decode cX12_judge 128 = .ok (.istore 5, 2) := by decide +kernel
theorem dX12_judge_130 : decode cX12_judge 130 = .ok (.aload_n 0, 1) := by decide +kernel
theorem dX12_judge_131 : decode cX12_judge 131 = .ok (.getfield 9, 3) := by decide +kernel
theorem dX12_judge_134 : decode cX12_judge 134 = .ok (.bipush 51, 2) := by decide +kernel
theorem dX12_judge_136 : decode cX12_judge 136 = .ok (.iaload, 1) := by decide +kernel
theorem dX12_judge_137 : decode cX12_judge 137 = .ok (.istore 6, 2) := by decide +kernel
theorem dX12_judge_139 : decode cX12_judge 139 = .ok (.aload_n 0, 1) := by decide +kernel
theorem dX12_judge_140 : decode cX12_judge 140 = .ok (.invokevirtual 392, 3) := by decide +kernel
theorem dX12_judge_143 : decode cX12_judge 143 = .ok (.iload_n 2, 1) := by decide +kernel
theorem dX12_judge_144 : decode cX12_judge 144 = .ok (.ifCond .ne 7, 3) := by decide +kernel
theorem dX12_judge_147 : decode cX12_judge 147 = .ok (.iload_n 3, 1) := by decide +kernel
theorem dX12_judge_148 : decode cX12_judge 148 = .ok (.goto 25, 3) := by decide +kernel
theorem dX12_judge_151 : decode cX12_judge 151 = .ok (.iload_n 2, 1) := by decide +kernel
theorem dX12_judge_152 : decode cX12_judge 152 = .ok (.iconst 1, 1) := by decide +kernel
theorem dX12_judge_153 : decode cX12_judge 153 = .ok (.if_icmp .ne 8, 3) := by decide +kernel
theorem dX12_judge_156 : decode cX12_judge 156 = .ok (.iload 4, 2) := by decide +kernel
theorem dX12_judge_158 : decode cX12_judge 158 = .ok (.goto 15, 3) := by decide +kernel
theorem dX12_judge_161 : decode cX12_judge 161 = .ok (.iload_n 2, 1) := by decide +kernel
theorem dX12_judge_162 : decode cX12_judge 162 = .ok (.iconst 2, 1) := by decide +kernel
theorem dX12_judge_163 : decode cX12_judge 163 = .ok (.if_icmp .ne 8, 3) := by decide +kernel
theorem dX12_judge_166 : decode cX12_judge 166 = .ok (.iload 5, 2) := by decide +kernel
theorem dX12_judge_168 : decode cX12_judge 168 = .ok (.goto 5, 3) := by decide +kernel
theorem dX12_judge_171 : decode cX12_judge 171 = .ok (.iload 6, 2) := by decide +kernel
theorem dX12_judge_173 : decode cX12_judge 173 = .ok (.ireturn, 1) := by decide +kernel
theorem dX12_perform_0 : decode cX12_perform 0 = .ok (.aload_n 0, 1) := by decide +kernel
theorem dX12_perform_1 : decode cX12_perform 1 = .ok (.aload_n 0, 1) := by decide +kernel
theorem dX12_perform_2 : decode cX12_perform 2 = .ok (.iload_n 1, 1) := by decide +kernel
theorem dX12_perform_3 : decode cX12_perform 3 = .ok (.invokevirtual 377, 3) := by decide +kernel
theorem dX12_perform_6 : decode cX12_perform 6 = .ok (.putfield 67, 3) := by decide +kernel
theorem dX12_perform_9 : decode cX12_perform 9 = .ok (.aload_n 0, 1) := by decide +kernel
theorem dX12_perform_10 : decode cX12_perform 10 = .ok (.getfield 67, 3) := by decide +kernel
theorem dX12_perform_13 : decode cX12_perform 13 = .ok (.ifCond .le 5, 3) := by decide +kernel
theorem dX12_perform_16 : decode cX12_perform 16 = .ok (.iconst 0, 1) := by decide +kernel
theorem dX12_perform_17 : decode cX12_perform 17 = .ok (.ireturn, 1) := by decide +kernel
theorem dX12_perform_18 : decode cX12_perform 18 = .ok (.iconst 0, 1) := by decide +kernel
theorem dX12_perform_19 : decode cX12_perform 19 = .ok (.istore_n 2, 1) := by decide +kernel
theorem dX12_perform_20 : decode cX12_perform 20 = .ok (.iload_n 2, 1) := by decide +kernel
theorem dX12_perform_21 : decode cX12_perform 21 = .ok (.aload_n 0, 1) := by decide +kernel
theorem dX12_perform_22 : decode cX12_perform 22 = .ok (.getfield 60, 3) := by decide +kernel
theorem dX12_perform_25 : decode cX12_perform 25 = .ok (.iload_n 1, 1) := by decide +kernel
theorem dX12_perform_26 : decode cX12_perform 26 = .ok (.iaload, 1) := by decide +kernel
theorem dX12_perform_27 : decode cX12_perform 27 = .ok (.if_icmp .ge 47, 3) := by decide +kernel
theorem dX12_perform_30 : decode cX12_perform 30 = .ok (.aload_n 0, 1) := by decide +kernel
theorem dX12_perform_31 : decode cX12_perform 31 = .ok (.aload_n 0, 1) := by decide +kernel
theorem dX12_perform_32 : decode cX12_perform 32 = .ok (.getfield 63, 3) := by decide +kernel
theorem dX12_perform_35 : decode cX12_perform 35 = .ok (.bipush 30, 2) := by decide +kernel
theorem dX12_perform_37 : decode cX12_perform 37 = .ok (.iload_n 1, 1) := by decide +kernel
theorem dX12_perform_38 : decode cX12_perform 38 = .ok (.imul, 1) := by decide +kernel
theorem dX12_perform_39 : decode cX12_perform 39 = .ok (.iload_n 2, 1) := by decide +kernel
theorem dX12_perform_40 : decode cX12_perform 40 = .ok (.iadd, 1) := by decide +kernel
theorem dX12_perform_41 : decode cX12_perform 41 = .ok (.laload, 1) := by decide +kernel
theorem dX12_perform_42 : decode cX12_perform 42 = .ok (.invokevirtual 383, 3) := by decide +kernel
theorem dX12_perform_45 : decode cX12_perform 45 = .ok (.ifCond .ne 29, 3) := by decide +kernel
theorem dX12_perform_48 : decode cX12_perform 48 = .ok (.aload_n 0, 1) := by decide +kernel
theorem dX12_perform_49 : decode cX12_perform 49 = .ok (.invokevirtual 332, 3) := by decide +kernel
theorem dX12_perform_52 : decode cX12_perform 52 = .ok (.aload_n 0, 1) := by decide +kernel
theorem dX12_perform_53 : decode cX12_perform 53 = .ok (.aload_n 0, 1) := by decide +kernel
theorem dX12_perform_54 : decode cX12_perform 54 = .ok (.getfield 63, 3) := by decide +kernel
theorem dX12_perform_57 : decode cX12_perform 57 = .ok (.bipush 30, 2) := by decide +kernel
theorem dX12_perform_59 : decode cX12_perform 59 = .ok (.iload_n 1, 1) := by decide +kernel
theorem dX12_perform_60 : decode cX12_perform 60 = .ok (.imul, 1) := by decide +kernel
theorem dX12_perform_61 : decode cX12_perform 61 = .ok (.iload_n 2, 1) := by decide +kernel
theorem dX12_perform_62 : decode cX12_perform 62 = .ok (.iadd, 1) := by decide +kernel
theorem dX12_perform_63 : decode cX12_perform 63 = .ok (.laload, 1) := by decide +kernel
theorem dX12_perform_64 : decode cX12_perform 64 = .ok (.l2i, 1) := by decide +kernel
theorem dX12_perform_65 : decode cX12_perform 65 = .ok (.invokevirtual 386, 3) := by decide +kernel
theorem dX12_perform_68 : decode cX12_perform 68 = .ok (.iinc 2 1, 3) := by decide +kernel
theorem dX12_perform_71 : decode cX12_perform 71 = .ok (.goto (-51), 3) := by decide +kernel
theorem dX12_perform_74 : decode cX12_perform 74 = .ok (.iload_n 2, 1) := by decide +kernel
theorem dX12_perform_75 : decode cX12_perform 75 = .ok (.ireturn, 1) := by decide +kernel
theorem dX12_draw_0 : decode cX12_draw 0 = .ok (.aload_n 0, 1) := by decide +kernel
theorem dX12_draw_1 : decode cX12_draw 1 = .ok (.ldc_w 395, 3) := by decide +kernel
theorem dX12_draw_4 : decode cX12_draw 4 = .ok (.aload_n 0, 1) := by decide +kernel
theorem dX12_draw_5 : decode cX12_draw 5 = .ok (.getfield 396, 3) := by decide +kernel
theorem dX12_draw_8 : decode cX12_draw 8 = .ok (.imul, 1) := by decide +kernel
theorem dX12_draw_9 : decode cX12_draw 9 = .ok (.sipush 12345, 3) := by decide +kernel
theorem dX12_draw_12 : decode cX12_draw 12 = .ok (.iadd, 1) := by decide +kernel
theorem dX12_draw_13 : decode cX12_draw 13 = .ok (.putfield 396, 3) := by decide +kernel
theorem dX12_draw_16 : decode cX12_draw 16 = .ok (.aload_n 0, 1) := by decide +kernel
theorem dX12_draw_17 : decode cX12_draw 17 = .ok (.getfield 396, 3) := by decide +kernel
theorem dX12_draw_20 : decode cX12_draw 20 = .ok (.bipush 16, 2) := by decide +kernel
theorem dX12_draw_22 : decode cX12_draw 22 = .ok (.iushr, 1) := by decide +kernel
theorem dX12_draw_23 : decode cX12_draw 23 = .ok (.iload_n 1, 1) := by decide +kernel
theorem dX12_draw_24 : decode cX12_draw 24 = .ok (.irem, 1) := by decide +kernel
theorem dX12_draw_25 : decode cX12_draw 25 = .ok (.ireturn, 1) := by decide +kernel
theorem dX12_year_0 : decode cX12_year 0 = .ok (.aload_n 0, 1) := by decide +kernel
theorem dX12_year_1 : decode cX12_year 1 = .ok (.iconst 0, 1) := by decide +kernel
theorem dX12_year_2 : decode cX12_year 2 = .ok (.putfield 67, 3) := by decide +kernel
theorem dX12_year_5 : decode cX12_year 5 = .ok (.iload_n 2, 1) := by decide +kernel
theorem dX12_year_6 : decode cX12_year 6 = .ok (.i2l, 1) := by decide +kernel
theorem dX12_year_7 : decode cX12_year 7 = .ok (.lconst 1, 1) := by decide +kernel
theorem dX12_year_8 : decode cX12_year 8 = .ok (.ldc2_w 399, 3) := by decide +kernel
theorem dX12_year_11 : decode cX12_year 11 = .ok (.invokestatic 128, 3) := by decide +kernel
theorem dX12_year_14 : decode cX12_year 14 = .ok (.ifCond .ne 9, 3) := by decide +kernel
theorem dX12_year_17 : decode cX12_year 17 = .ok (.aload_n 0, 1) := by decide +kernel
theorem dX12_year_18 : decode cX12_year 18 = .ok (.iconst 1, 1) := by decide +kernel
theorem dX12_year_19 : decode cX12_year 19 = .ok (.invokevirtual 234, 3) := by decide +kernel
theorem dX12_year_22 : decode cX12_year 22 = .ok (.ireturn, 1) := by decide +kernel
theorem dX12_year_23 : decode cX12_year 23 = .ok (.aload_n 0, 1) := by decide +kernel
theorem dX12_year_24 : decode cX12_year 24 = .ok (.iload_n 1, 1) := by decide +kernel
theorem dX12_year_25 : decode cX12_year 25 = .ok (.putfield 396, 3) := by decide +kernel
theorem dX12_year_28 : decode cX12_year 28 = .ok (.iconst 0, 1) := by decide +kernel
theorem dX12_year_29 : decode cX12_year 29 = .ok (.istore_n 3, 1) := by decide +kernel
theorem dX12_year_30 : decode cX12_year 30 = .ok (.iconst 0, 1) := by decide +kernel
theorem dX12_year_31 : decode cX12_year 31 = .ok (.istore 4, 2) := by decide +kernel
theorem dX12_year_33 : decode cX12_year 33 = .ok (.iload 4, 2) := by decide +kernel
theorem dX12_year_35 : decode cX12_year 35 = .ok (.iload_n 2, 1) := by decide +kernel
theorem dX12_year_36 : decode cX12_year 36 = .ok (.if_icmp .ge 77, 3) := by decide +kernel
theorem dX12_year_39 : decode cX12_year 39 = .ok (.aload_n 0, 1) := by decide +kernel
theorem dX12_year_40 : decode cX12_year 40 = .ok (.bipush 6, 2) := by decide +kernel
theorem dX12_year_42 : decode cX12_year 42 = .ok (.invokevirtual 401, 3) := by decide +kernel
theorem dX12_year_45 : decode cX12_year 45 = .ok (.istore 5, 2) := by decide +kernel
theorem dX12_year_47 : decode cX12_year 47 = .ok (.iload 5, 2) := by decide +kernel
theorem dX12_year_49 : decode cX12_year 49 = .ok (.iconst 1, 1) := by decide +kernel
theorem dX12_year_50 : decode cX12_year 50 = .ok (.if_icmp .le 13, 3) := by decide +kernel
theorem dX12_year_53 : decode cX12_year 53 = .ok (.aload_n 0, 1) := by decide +kernel
theorem dX12_year_54 : decode cX12_year 54 = .ok (.invokevirtual 249, 3) := by decide +kernel
theorem dX12_year_57 : decode cX12_year 57 = .ok (.ifCond .ne 6, 3) := by decide +kernel
theorem dX12_year_60 : decode cX12_year 60 = .ok (.goto 47, 3) := by decide +kernel
theorem dX12_year_63 : decode cX12_year 63 = .ok (.iload 5, 2) := by decide +kernel
theorem dX12_year_65 : decode cX12_year 65 = .ok (.iconst 2, 1) := by decide +kernel
theorem dX12_year_66 : decode cX12_year 66 = .ok (.if_icmp .ge 7, 3) := by decide +kernel
theorem dX12_year_69 : decode cX12_year 69 = .ok (.iconst (-1), 1) := by decide +kernel
theorem dX12_year_70 : decode cX12_year 70 = .ok (.goto 9, 3) := by decide +kernel
theorem dX12_year_73 : decode cX12_year 73 = .ok (.aload_n 0, 1) := by decide +kernel
theorem dX12_year_74 : decode cX12_year 74 = .ok (.iload 5, 2) := by decide +kernel
theorem dX12_year_76 : decode cX12_year 76 = .ok (.invokevirtual 404, 3) := by decide +kernel
theorem dX12_year_79 : decode cX12_year 79 = .ok (.istore 6, 2) := by decide +kernel
theorem dX12_year_81 : decode cX12_year 81 = .ok (.aload_n 0, 1) := by decide +kernel
theorem dX12_year_82 : decode cX12_year 82 = .ok (.iload 6, 2) := by decide +kernel
theorem dX12_year_84 : decode cX12_year 84 = .ok (.i2l, 1) := by decide +kernel
theorem dX12_year_85 : decode cX12_year 85 = .ok (.invokevirtual 383, 3) := by decide +kernel
theorem dX12_year_88 : decode cX12_year 88 = .ok (.ifCond .eq 6, 3) := by decide +kernel
theorem dX12_year_91 : decode cX12_year 91 = .ok (.goto 16, 3) := by decide +kernel
theorem dX12_year_94 : decode cX12_year 94 = .ok (.aload_n 0, 1) := by decide +kernel
theorem dX12_year_95 : decode cX12_year 95 = .ok (.invokevirtual 332, 3) := by decide +kernel
theorem dX12_year_98 : decode cX12_year 98 = .ok (.aload_n 0, 1) := by decide +kernel
theorem dX12_year_99 : decode cX12_year 99 = .ok (.iload 6, 2) := by decide +kernel
theorem dX12_year_101 : decode cX12_year 101 = .ok (.invokevirtual 386, 3) := by decide +kernel
theorem dX12_year_104 : decode cX12_year 104 = .ok (.iinc 3 1, 3) := by decide +kernel
theorem dX12_year_107 : decode cX12_year 107 = .ok (.iinc 4 1, 3) := by decide +kernel
theorem dX12_year_110 : decode cX12_year 110 = .ok (.goto (-77), 3) := by decide +kernel
theorem dX12_year_113 : decode cX12_year 113 = .ok (.iload_n 3, 1) := by decide +kernel
theorem dX12_year_114 : decode cX12_year 114 = .ok (.ireturn, 1) := by decide +kernel
theorem dX12_drawn_0 : decode cX12_drawn 0 = .ok (.aload_n 0, 1) := by decide +kernel
theorem dX12_drawn_1 : decode cX12_drawn 1 = .ok (.aload_n 0, 1) := by decide +kernel
theorem dX12_drawn_2 : decode cX12_drawn 2 = .ok (.invokevirtual 249, 3) := by decide +kernel
theorem dX12_drawn_5 : decode cX12_drawn 5 = .ok (.invokevirtual 401, 3) := by decide +kernel
theorem dX12_drawn_8 : decode cX12_drawn 8 = .ok (.istore_n 2, 1) := by decide +kernel
theorem dX12_drawn_9 : decode cX12_drawn 9 = .ok (.iload_n 1, 1) := by decide +kernel
theorem dX12_drawn_10 : decode cX12_drawn 10 = .ok (.iconst 3, 1) := by decide +kernel
theorem dX12_drawn_11 : decode cX12_drawn 11 = .ok (.if_icmp .eq 8, 3) := by decide +kernel
theorem dX12_drawn_14 : decode cX12_drawn 14 = .ok (.iload_n 1, 1) := by decide +kernel
theorem dX12_drawn_15 : decode cX12_drawn 15 = .ok (.iconst 4, 1) := by decide +kernel
theorem dX12_drawn_16 : decode cX12_drawn 16 = .ok (.if_icmp .ne 21, 3) := by decide +kernel
theorem dX12_drawn_19 : decode cX12_drawn 19 = .ok (.iload_n 1, 1) := by decide +kernel
theorem dX12_drawn_20 : decode cX12_drawn 20 = .ok (.iconst 3, 1) := by decide +kernel
theorem dX12_drawn_21 : decode cX12_drawn 21 = .ok (.if_icmp .ne 10, 3) := by decide +kernel
theorem dX12_drawn_24 : decode cX12_drawn 24 = .ok (.bipush 100, 2) := by decide +kernel
theorem dX12_drawn_26 : decode cX12_drawn 26 = .ok (.iload_n 2, 1) := by decide +kernel
theorem dX12_drawn_27 : decode cX12_drawn 27 = .ok (.iadd, 1) := by decide +kernel
theorem dX12_drawn_28 : decode cX12_drawn 28 = .ok (.goto 8, 3) := by decide +kernel
theorem dX12_drawn_31 : decode cX12_drawn 31 = .ok (.sipush 200, 3) := by decide +kernel
theorem dX12_drawn_34 : decode cX12_drawn 34 = .ok (.iload_n 2, 1) := by decide +kernel
theorem dX12_drawn_35 : decode cX12_drawn 35 = .ok (.iadd, 1) := by decide +kernel
theorem dX12_drawn_36 : decode cX12_drawn 36 = .ok (.ireturn, 1) := by decide +kernel
theorem dX12_drawn_37 : decode cX12_drawn 37 = .ok (.iload_n 1, 1) := by decide +kernel
theorem dX12_drawn_38 : decode cX12_drawn 38 = .ok (.iconst 2, 1) := by decide +kernel
theorem dX12_drawn_39 : decode cX12_drawn 39 = .ok (.if_icmp .ne 7, 3) := by decide +kernel
theorem dX12_drawn_42 : decode cX12_drawn 42 = .ok (.iconst 0, 1) := by decide +kernel
theorem dX12_drawn_43 : decode cX12_drawn 43 = .ok (.goto 6, 3) := by decide +kernel
theorem dX12_drawn_46 : decode cX12_drawn 46 = .ok (.sipush 300, 3) := by decide +kernel
theorem dX12_drawn_49 : decode cX12_drawn 49 = .ok (.bipush 10, 2) := by decide +kernel
theorem dX12_drawn_51 : decode cX12_drawn 51 = .ok (.iload_n 2, 1) := by decide +kernel
theorem dX12_drawn_52 : decode cX12_drawn 52 = .ok (.imul, 1) := by decide +kernel
theorem dX12_drawn_53 : decode cX12_drawn 53 = .ok (.iadd, 1) := by decide +kernel
theorem dX12_drawn_54 : decode cX12_drawn 54 = .ok (.aload_n 0, 1) := by decide +kernel
theorem dX12_drawn_55 : decode cX12_drawn 55 = .ok (.aload_n 0, 1) := by decide +kernel
theorem dX12_drawn_56 : decode cX12_drawn 56 = .ok (.invokevirtual 249, 3) := by decide +kernel
theorem dX12_drawn_59 : decode cX12_drawn 59 = .ok (.invokevirtual 401, 3) := by decide +kernel
theorem dX12_drawn_62 : decode cX12_drawn 62 = .ok (.iadd, 1) := by decide +kernel
theorem dX12_drawn_63 : decode cX12_drawn 63 = .ok (.ireturn, 1) := by decide +kernel
theorem dX12_goesOn_0 : decode cX12_goesOn 0 = .ok (.iconst 0, 1) := by decide +kernel
theorem dX12_goesOn_1 : decode cX12_goesOn 1 = .ok (.istore_n 2, 1) := by decide +kernel
theorem dX12_goesOn_2 : decode cX12_goesOn 2 = .ok (.iload_n 2, 1) := by decide +kernel
theorem dX12_goesOn_3 : decode cX12_goesOn 3 = .ok (.iload_n 1, 1) := by decide +kernel
theorem dX12_goesOn_4 : decode cX12_goesOn 4 = .ok (.if_icmp .ge 13, 3) := by decide +kernel
theorem dX12_goesOn_7 : decode cX12_goesOn 7 = .ok (.aload_n 0, 1) := by decide +kernel
theorem dX12_goesOn_8 : decode cX12_goesOn 8 = .ok (.invokevirtual 356, 3) := by decide +kernel
theorem dX12_goesOn_11 : decode cX12_goesOn 11 = .ok (.iinc 2 1, 3) := by decide +kernel
theorem dX12_goesOn_14 : decode cX12_goesOn 14 = .ok (.goto (-12), 3) := by decide +kernel
theorem dX12_goesOn_17 : decode cX12_goesOn 17 = .ok (.return_, 1) := by decide +kernel
theorem dX12_later_0 : decode cX12_later 0 = .ok (.aload_n 0, 1) := by decide +kernel
theorem dX12_later_1 : decode cX12_later 1 = .ok (.invokevirtual 380, 3) := by decide +kernel
theorem dX12_later_4 : decode cX12_later 4 = .ok (.aload_n 0, 1) := by decide +kernel
theorem dX12_later_5 : decode cX12_later 5 = .ok (.iload_n 2, 1) := by decide +kernel
theorem dX12_later_6 : decode cX12_later 6 = .ok (.invokevirtual 407, 3) := by decide +kernel
theorem dX12_later_9 : decode cX12_later 9 = .ok (.aload_n 0, 1) := by decide +kernel
theorem dX12_later_10 : decode cX12_later 10 = .ok (.getfield 9, 3) := by decide +kernel
theorem dX12_later_13 : decode cX12_later 13 = .ok (.iload_n 1, 1) := by decide +kernel
theorem dX12_later_14 : decode cX12_later 14 = .ok (.iaload, 1) := by decide +kernel
theorem dX12_later_15 : decode cX12_later 15 = .ok (.istore_n 3, 1) := by decide +kernel
theorem dX12_later_16 : decode cX12_later 16 = .ok (.aload_n 0, 1) := by decide +kernel
theorem dX12_later_17 : decode cX12_later 17 = .ok (.invokevirtual 392, 3) := by decide +kernel
theorem dX12_later_20 : decode cX12_later 20 = .ok (.iload_n 3, 1) := by decide +kernel
theorem dX12_later_21 : decode cX12_later 21 = .ok (.ireturn, 1) := by decide +kernel
theorem dX12_debtIn_0 : decode cX12_debtIn 0 = .ok (.aload_n 0, 1) := by decide +kernel
theorem dX12_debtIn_1 : decode cX12_debtIn 1 = .ok (.aload_n 0, 1) := by decide +kernel
theorem dX12_debtIn_2 : decode cX12_debtIn 2 = .ok (.iload_n 1, 1) := by decide +kernel
theorem dX12_debtIn_3 : decode cX12_debtIn 3 = .ok (.i2l, 1) := by decide +kernel
theorem dX12_debtIn_4 : decode cX12_debtIn 4 = .ok (.invokevirtual 313, 3) := by decide +kernel
theorem dX12_debtIn_7 : decode cX12_debtIn 7 = .ok (.ifCond .ne 7, 3) := by decide +kernel
theorem dX12_debtIn_10 : decode cX12_debtIn 10 = .ok (.iconst 1, 1) := by decide +kernel
theorem dX12_debtIn_11 : decode cX12_debtIn 11 = .ok (.goto 20, 3) := by decide +kernel
theorem dX12_debtIn_14 : decode cX12_debtIn 14 = .ok (.iload_n 2, 1) := by decide +kernel
theorem dX12_debtIn_15 : decode cX12_debtIn 15 = .ok (.i2l, 1) := by decide +kernel
theorem dX12_debtIn_16 : decode cX12_debtIn 16 = .ok (.lconst 0, 1) := by decide +kernel
theorem dX12_debtIn_17 : decode cX12_debtIn 17 = .ok (.ldc2_w 369, 3) := by decide +kernel
theorem dX12_debtIn_20 : decode cX12_debtIn 20 = .ok (.invokestatic 128, 3) := by decide +kernel
theorem dX12_debtIn_23 : decode cX12_debtIn 23 = .ok (.ifCond .eq 7, 3) := by decide +kernel
theorem dX12_debtIn_26 : decode cX12_debtIn 26 = .ok (.iconst 0, 1) := by decide +kernel
theorem dX12_debtIn_27 : decode cX12_debtIn 27 = .ok (.goto 4, 3) := by decide +kernel
theorem dX12_debtIn_30 : decode cX12_debtIn 30 = .ok (.iconst 2, 1) := by decide +kernel
theorem dX12_debtIn_31 : decode cX12_debtIn 31 = .ok (.putfield 67, 3) := by decide +kernel
theorem dX12_debtIn_34 : decode cX12_debtIn 34 = .ok (.aload_n 0, 1) := by decide +kernel
theorem dX12_debtIn_35 : decode cX12_debtIn 35 = .ok (.getfield 67, 3) := by decide +kernel
theorem dX12_debtIn_38 : decode cX12_debtIn 38 = .ok (.ifCond .le 7, 3) := by decide +kernel
theorem dX12_debtIn_41 : decode cX12_debtIn 41 = .ok (.iconst 0, 1) := by decide +kernel
theorem dX12_debtIn_42 : decode cX12_debtIn 42 = .ok (.goto 12, 3) := by decide +kernel
theorem dX12_debtIn_45 : decode cX12_debtIn 45 = .ok (.aload_n 0, 1) := by decide +kernel
theorem dX12_debtIn_46 : decode cX12_debtIn 46 = .ok (.bipush 36, 2) := by decide +kernel
theorem dX12_debtIn_48 : decode cX12_debtIn 48 = .ok (.iload_n 1, 1) := by decide +kernel
theorem dX12_debtIn_49 : decode cX12_debtIn 49 = .ok (.iadd, 1) := by decide +kernel
theorem dX12_debtIn_50 : decode cX12_debtIn 50 = .ok (.iload_n 2, 1) := by decide +kernel
theorem dX12_debtIn_51 : decode cX12_debtIn 51 = .ok (.invokevirtual 410, 3) := by decide +kernel
theorem dX12_debtIn_54 : decode cX12_debtIn 54 = .ok (.ireturn, 1) := by decide +kernel
theorem dX12_cashIn_0 : decode cX12_cashIn 0 = .ok (.aload_n 0, 1) := by decide +kernel
theorem dX12_cashIn_1 : decode cX12_cashIn 1 = .ok (.aload_n 0, 1) := by decide +kernel
theorem dX12_cashIn_2 : decode cX12_cashIn 2 = .ok (.iload_n 1, 1) := by decide +kernel
theorem dX12_cashIn_3 : decode cX12_cashIn 3 = .ok (.i2l, 1) := by decide +kernel
theorem dX12_cashIn_4 : decode cX12_cashIn 4 = .ok (.invokevirtual 313, 3) := by decide +kernel
theorem dX12_cashIn_7 : decode cX12_cashIn 7 = .ok (.ifCond .ne 7, 3) := by decide +kernel
theorem dX12_cashIn_10 : decode cX12_cashIn 10 = .ok (.iconst 1, 1) := by decide +kernel
theorem dX12_cashIn_11 : decode cX12_cashIn 11 = .ok (.goto 20, 3) := by decide +kernel
theorem dX12_cashIn_14 : decode cX12_cashIn 14 = .ok (.iload_n 2, 1) := by decide +kernel
theorem dX12_cashIn_15 : decode cX12_cashIn 15 = .ok (.i2l, 1) := by decide +kernel
theorem dX12_cashIn_16 : decode cX12_cashIn 16 = .ok (.lconst 0, 1) := by decide +kernel
theorem dX12_cashIn_17 : decode cX12_cashIn 17 = .ok (.ldc2_w 369, 3) := by decide +kernel
theorem dX12_cashIn_20 : decode cX12_cashIn 20 = .ok (.invokestatic 128, 3) := by decide +kernel
theorem dX12_cashIn_23 : decode cX12_cashIn 23 = .ok (.ifCond .eq 7, 3) := by decide +kernel
theorem dX12_cashIn_26 : decode cX12_cashIn 26 = .ok (.iconst 0, 1) := by decide +kernel
theorem dX12_cashIn_27 : decode cX12_cashIn 27 = .ok (.goto 4, 3) := by decide +kernel
theorem dX12_cashIn_30 : decode cX12_cashIn 30 = .ok (.iconst 2, 1) := by decide +kernel
theorem dX12_cashIn_31 : decode cX12_cashIn 31 = .ok (.putfield 67, 3) := by decide +kernel
theorem dX12_cashIn_34 : decode cX12_cashIn 34 = .ok (.aload_n 0, 1) := by decide +kernel
theorem dX12_cashIn_35 : decode cX12_cashIn 35 = .ok (.getfield 67, 3) := by decide +kernel
theorem dX12_cashIn_38 : decode cX12_cashIn 38 = .ok (.ifCond .le 7, 3) := by decide +kernel
theorem dX12_cashIn_41 : decode cX12_cashIn 41 = .ok (.iconst 0, 1) := by decide +kernel
theorem dX12_cashIn_42 : decode cX12_cashIn 42 = .ok (.goto 12, 3) := by decide +kernel
theorem dX12_cashIn_45 : decode cX12_cashIn 45 = .ok (.aload_n 0, 1) := by decide +kernel
theorem dX12_cashIn_46 : decode cX12_cashIn 46 = .ok (.bipush 22, 2) := by decide +kernel
theorem dX12_cashIn_48 : decode cX12_cashIn 48 = .ok (.iload_n 1, 1) := by decide +kernel
theorem dX12_cashIn_49 : decode cX12_cashIn 49 = .ok (.iadd, 1) := by decide +kernel
theorem dX12_cashIn_50 : decode cX12_cashIn 50 = .ok (.iload_n 2, 1) := by decide +kernel
theorem dX12_cashIn_51 : decode cX12_cashIn 51 = .ok (.invokevirtual 410, 3) := by decide +kernel
theorem dX12_cashIn_54 : decode cX12_cashIn 54 = .ok (.ireturn, 1) := by decide +kernel
theorem dX12_ruinIn_0 : decode cX12_ruinIn 0 = .ok (.aload_n 0, 1) := by decide +kernel
theorem dX12_ruinIn_1 : decode cX12_ruinIn 1 = .ok (.iconst 0, 1) := by decide +kernel
theorem dX12_ruinIn_2 : decode cX12_ruinIn 2 = .ok (.putfield 67, 3) := by decide +kernel
theorem dX12_ruinIn_5 : decode cX12_ruinIn 5 = .ok (.aload_n 0, 1) := by decide +kernel
theorem dX12_ruinIn_6 : decode cX12_ruinIn 6 = .ok (.iload_n 1, 1) := by decide +kernel
theorem dX12_ruinIn_7 : decode cX12_ruinIn 7 = .ok (.i2l, 1) := by decide +kernel
theorem dX12_ruinIn_8 : decode cX12_ruinIn 8 = .ok (.invokevirtual 313, 3) := by decide +kernel
theorem dX12_ruinIn_11 : decode cX12_ruinIn 11 = .ok (.ifCond .ne 9, 3) := by decide +kernel
theorem dX12_ruinIn_14 : decode cX12_ruinIn 14 = .ok (.aload_n 0, 1) := by decide +kernel
theorem dX12_ruinIn_15 : decode cX12_ruinIn 15 = .ok (.iconst 1, 1) := by decide +kernel
theorem dX12_ruinIn_16 : decode cX12_ruinIn 16 = .ok (.invokevirtual 234, 3) := by decide +kernel
theorem dX12_ruinIn_19 : decode cX12_ruinIn 19 = .ok (.ireturn, 1) := by decide +kernel
theorem dX12_ruinIn_20 : decode cX12_ruinIn 20 = .ok (.aload_n 0, 1) := by decide +kernel
theorem dX12_ruinIn_21 : decode cX12_ruinIn 21 = .ok (.invokevirtual 380, 3) := by decide +kernel
theorem dX12_ruinIn_24 : decode cX12_ruinIn 24 = .ok (.iconst 0, 1) := by decide +kernel
theorem dX12_ruinIn_25 : decode cX12_ruinIn 25 = .ok (.istore_n 2, 1) := by decide +kernel
theorem dX12_ruinIn_26 : decode cX12_ruinIn 26 = .ok (.iload_n 2, 1) := by decide +kernel
theorem dX12_ruinIn_27 : decode cX12_ruinIn 27 = .ok (.sipush 200, 3) := by decide +kernel
theorem dX12_ruinIn_30 : decode cX12_ruinIn 30 = .ok (.if_icmp .gt 21, 3) := by decide +kernel
theorem dX12_ruinIn_33 : decode cX12_ruinIn 33 = .ok (.aload_n 0, 1) := by decide +kernel
theorem dX12_ruinIn_34 : decode cX12_ruinIn 34 = .ok (.iload_n 1, 1) := by decide +kernel
theorem dX12_ruinIn_35 : decode cX12_ruinIn 35 = .ok (.invokevirtual 291, 3) := by decide +kernel
theorem dX12_ruinIn_38 : decode cX12_ruinIn 38 = .ok (.ifCond .ne 13, 3) := by decide +kernel
theorem dX12_ruinIn_41 : decode cX12_ruinIn 41 = .ok (.aload_n 0, 1) := by decide +kernel
theorem dX12_ruinIn_42 : decode cX12_ruinIn 42 = .ok (.invokevirtual 356, 3) := by decide +kernel
theorem dX12_ruinIn_45 : decode cX12_ruinIn 45 = .ok (.iinc 2 1, 3) := by decide +kernel
theorem dX12_ruinIn_48 : decode cX12_ruinIn 48 = .ok (.goto (-22), 3) := by decide +kernel
theorem dX12_ruinIn_51 : decode cX12_ruinIn 51 = .ok (.aload_n 0, 1) := by decide +kernel
theorem dX12_ruinIn_52 : decode cX12_ruinIn 52 = .ok (.invokevirtual 392, 3) := by decide +kernel
theorem dX12_ruinIn_55 : decode cX12_ruinIn 55 = .ok (.iload_n 2, 1) := by decide +kernel
theorem dX12_ruinIn_56 : decode cX12_ruinIn 56 = .ok (.sipush 200, 3) := by decide +kernel
theorem dX12_ruinIn_59 : decode cX12_ruinIn 59 = .ok (.if_icmp .le 7, 3) := by decide +kernel
theorem dX12_ruinIn_62 : decode cX12_ruinIn 62 = .ok (.iconst (-1), 1) := by decide +kernel
theorem dX12_ruinIn_63 : decode cX12_ruinIn 63 = .ok (.goto 4, 3) := by decide +kernel
theorem dX12_ruinIn_66 : decode cX12_ruinIn 66 = .ok (.iload_n 2, 1) := by decide +kernel
theorem dX12_ruinIn_67 : decode cX12_ruinIn 67 = .ok (.ireturn, 1) := by decide +kernel
theorem dX12_isSoon_0 : decode cX12_isSoon 0 = .ok (.iload_n 0, 1) := by decide +kernel
theorem dX12_isSoon_1 : decode cX12_isSoon 1 = .ok (.i2l, 1) := by decide +kernel
theorem dX12_isSoon_2 : decode cX12_isSoon 2 = .ok (.lconst 1, 1) := by decide +kernel
theorem dX12_isSoon_3 : decode cX12_isSoon 3 = .ok (.ldc2_w 346, 3) := by decide +kernel
theorem dX12_isSoon_6 : decode cX12_isSoon 6 = .ok (.invokestatic 128, 3) := by decide +kernel
theorem dX12_isSoon_9 : decode cX12_isSoon 9 = .ok (.ireturn, 1) := by decide +kernel
theorem dX12_lostFromHere_0 : decode cX12_lostFromHere 0 = .ok (.aload_n 0, 1) := by decide +kernel
theorem dX12_lostFromHere_1 : decode cX12_lostFromHere 1 = .ok (.iconst 0, 1) := by decide +kernel
theorem dX12_lostFromHere_2 : decode cX12_lostFromHere 2 = .ok (.putfield 413, 3) := by decide +kernel
theorem dX12_lostFromHere_5 : decode cX12_lostFromHere 5 = .ok (.iconst 0, 1) := by decide +kernel
theorem dX12_lostFromHere_6 : decode cX12_lostFromHere 6 = .ok (.istore_n 2, 1) := by decide +kernel
theorem dX12_lostFromHere_7 : decode cX12_lostFromHere 7 = .ok (.iload_n 2, 1) := by decide +kernel
theorem dX12_lostFromHere_8 : decode cX12_lostFromHere 8 = .ok (.aload_n 0, 1) := by decide +kernel
theorem dX12_lostFromHere_9 : decode cX12_lostFromHere 9 = .ok (.invokevirtual 249, 3) := by decide +kernel
theorem dX12_lostFromHere_12 : decode cX12_lostFromHere 12 = .ok (.if_icmp .ge 33, 3) := by decide +kernel
theorem dX12_lostFromHere_15 : decode cX12_lostFromHere 15 = .ok (.aload_n 0, 1) := by decide +kernel
theorem dX12_lostFromHere_16 : decode cX12_lostFromHere 16 = .ok (.dup, 1) := by decide +kernel
theorem dX12_lostFromHere_17 : decode cX12_lostFromHere 17 = .ok (.getfield 413, 3) := by decide +kernel
theorem dX12_lostFromHere_20 : decode cX12_lostFromHere 20 = .ok (.aload_n 0, 1) := by decide +kernel
theorem dX12_lostFromHere_21 : decode cX12_lostFromHere 21 = .ok (.iload_n 2, 1) := by decide +kernel
theorem dX12_lostFromHere_22 : decode cX12_lostFromHere 22 = .ok (.invokevirtual 291, 3) := by decide +kernel
theorem dX12_lostFromHere_25 : decode cX12_lostFromHere 25 = .ok (.ifCond .eq 9, 3) := by decide +kernel
theorem dX12_lostFromHere_28 : decode cX12_lostFromHere 28 = .ok (.iconst 1, 1) := by decide +kernel
theorem dX12_lostFromHere_29 : decode cX12_lostFromHere 29 = .ok (.iload_n 2, 1) := by decide +kernel
theorem dX12_lostFromHere_30 : decode cX12_lostFromHere 30 = .ok (.ishl, 1) := by decide +kernel
theorem dX12_lostFromHere_31 : decode cX12_lostFromHere 31 = .ok (.goto 4, 3) := by decide +kernel
theorem dX12_lostFromHere_34 : decode cX12_lostFromHere 34 = .ok (.iconst 0, 1) := by decide +kernel
theorem dX12_lostFromHere_35 : decode cX12_lostFromHere 35 = .ok (.ior, 1) := by decide +kernel
theorem dX12_lostFromHere_36 : decode cX12_lostFromHere 36 = .ok (.putfield 413, 3) := by decide +kernel
theorem dX12_lostFromHere_39 : decode cX12_lostFromHere 39 = .ok (.iinc 2 1, 3) := by decide +kernel
theorem dX12_lostFromHere_42 : decode cX12_lostFromHere 42 = .ok (.goto (-35), 3) := by decide +kernel
theorem dX12_lostFromHere_45 : decode cX12_lostFromHere 45 = .ok (.aload_n 0, 1) := by decide +kernel
theorem dX12_lostFromHere_46 : decode cX12_lostFromHere 46 = .ok (.getfield 413, 3) := by decide +kernel
theorem dX12_lostFromHere_49 : decode cX12_lostFromHere 49 = .ok (.istore_n 2, 1) := by decide +kernel
theorem dX12_lostFromHere_50 : decode cX12_lostFromHere 50 = .ok (.aload_n 0, 1) := by decide +kernel
theorem dX12_lostFromHere_51 : decode cX12_lostFromHere 51 = .ok (.iload_n 1, 1) := by decide +kernel
theorem dX12_lostFromHere_52 : decode cX12_lostFromHere 52 = .ok (.invokevirtual 407, 3) := by decide +kernel
theorem dX12_lostFromHere_55 : decode cX12_lostFromHere 55 = .ok (.aload_n 0, 1) := by decide +kernel
theorem dX12_lostFromHere_56 : decode cX12_lostFromHere 56 = .ok (.iconst 0, 1) := by decide +kernel
theorem dX12_lostFromHere_57 : decode cX12_lostFromHere 57 = .ok (.putfield 413, 3) := by decide +kernel
theorem dX12_lostFromHere_60 : decode cX12_lostFromHere 60 = .ok (.iconst 0, 1) := by decide +kernel
theorem dX12_lostFromHere_61 : decode cX12_lostFromHere 61 = .ok (.istore_n 3, 1) := by decide +kernel
theorem dX12_lostFromHere_62 : decode cX12_lostFromHere 62 = .ok (.iload_n 3, 1) := by decide +kernel
theorem dX12_lostFromHere_63 : decode cX12_lostFromHere 63 = .ok (.aload_n 0, 1) := by decide +kernel
theorem dX12_lostFromHere_64 : decode cX12_lostFromHere 64 = .ok (.invokevirtual 249, 3) := by decide +kernel
theorem dX12_lostFromHere_67 : decode cX12_lostFromHere 67 = .ok (.if_icmp .ge 33, 3) := by decide +kernel
theorem dX12_lostFromHere_70 : decode cX12_lostFromHere 70 = .ok (.aload_n 0, 1) := by decide +kernel
theorem dX12_lostFromHere_71 : decode cX12_lostFromHere 71 = .ok (.dup, 1) := by decide +kernel
theorem dX12_lostFromHere_72 : decode cX12_lostFromHere 72 = .ok (.getfield 413, 3) := by decide +kernel
theorem dX12_lostFromHere_75 : decode cX12_lostFromHere 75 = .ok (.aload_n 0, 1) := by decide +kernel
theorem dX12_lostFromHere_76 : decode cX12_lostFromHere 76 = .ok (.iload_n 3, 1) := by decide +kernel
theorem dX12_lostFromHere_77 : decode cX12_lostFromHere 77 = .ok (.invokevirtual 291, 3) := by decide +kernel
theorem dX12_lostFromHere_80 : decode cX12_lostFromHere 80 = .ok (.ifCond .eq 9, 3) := by decide +kernel
theorem dX12_lostFromHere_83 : decode cX12_lostFromHere 83 = .ok (.iconst 1, 1) := by decide +kernel
theorem dX12_lostFromHere_84 : decode cX12_lostFromHere 84 = .ok (.iload_n 3, 1) := by decide +kernel
theorem dX12_lostFromHere_85 : decode cX12_lostFromHere 85 = .ok (.ishl, 1) := by decide +kernel
theorem dX12_lostFromHere_86 : decode cX12_lostFromHere 86 = .ok (.goto 4, 3) := by decide +kernel
theorem dX12_lostFromHere_89 : decode cX12_lostFromHere 89 = .ok (.iconst 0, 1) := by decide +kernel
theorem dX12_lostFromHere_90 : decode cX12_lostFromHere 90 = .ok (.ior, 1) := by decide +kernel
theorem dX12_lostFromHere_91 : decode cX12_lostFromHere 91 = .ok (.putfield 413, 3) := by decide +kernel
theorem dX12_lostFromHere_94 : decode cX12_lostFromHere 94 = .ok (.iinc 3 1, 3) := by decide +kernel
theorem dX12_lostFromHere_97 : decode cX12_lostFromHere 97 = .ok (.goto (-35), 3) := by decide +kernel
theorem dX12_lostFromHere_100 : decode cX12_lostFromHere 100 = .ok (.aload_n 0, 1) := by decide +kernel
theorem dX12_lostFromHere_101 : decode cX12_lostFromHere 101 = .ok (.dup, 1) := by decide +kernel
theorem dX12_lostFromHere_102 : decode cX12_lostFromHere 102 = .ok (.getfield 413, 3) := by decide +kernel
theorem dX12_lostFromHere_105 : decode cX12_lostFromHere 105 = .ok (.iload_n 2, 1) := by decide +kernel
theorem dX12_lostFromHere_106 : decode cX12_lostFromHere 106 = .ok (.iconst (-1), 1) := by decide +kernel
theorem dX12_lostFromHere_107 : decode cX12_lostFromHere 107 = .ok (.ixor, 1) := by decide +kernel
theorem dX12_lostFromHere_108 : decode cX12_lostFromHere 108 = .ok (.iand, 1) := by decide +kernel
theorem dX12_lostFromHere_109 : decode cX12_lostFromHere 109 = .ok (.putfield 413, 3) := by decide +kernel
theorem dX12_lostFromHere_112 : decode cX12_lostFromHere 112 = .ok (.aload_n 0, 1) := by decide +kernel
theorem dX12_lostFromHere_113 : decode cX12_lostFromHere 113 = .ok (.invokevirtual 392, 3) := by decide +kernel
theorem dX12_lostFromHere_116 : decode cX12_lostFromHere 116 = .ok (.aload_n 0, 1) := by decide +kernel
theorem dX12_lostFromHere_117 : decode cX12_lostFromHere 117 = .ok (.getfield 413, 3) := by decide +kernel
theorem dX12_lostFromHere_120 : decode cX12_lostFromHere 120 = .ok (.invokestatic 416, 3) := by decide +kernel
theorem dX12_lostFromHere_123 : decode cX12_lostFromHere 123 = .ok (.ireturn, 1) := by decide +kernel
theorem dX12_lostNow_0 : decode cX12_lostNow 0 = .ok (.aload_n 0, 1) := by decide +kernel
theorem dX12_lostNow_1 : decode cX12_lostNow 1 = .ok (.invokevirtual 380, 3) := by decide +kernel
theorem dX12_lostNow_4 : decode cX12_lostNow 4 = .ok (.aload_n 0, 1) := by decide +kernel
theorem dX12_lostNow_5 : decode cX12_lostNow 5 = .ok (.iload_n 1, 1) := by decide +kernel
theorem dX12_lostNow_6 : decode cX12_lostNow 6 = .ok (.invokevirtual 419, 3) := by decide +kernel
theorem dX12_lostNow_9 : decode cX12_lostNow 9 = .ok (.ireturn, 1) := by decide +kernel
theorem dX12_lost_0 : decode cX12_lost 0 = .ok (.aload_n 0, 1) := by decide +kernel
theorem dX12_lost_1 : decode cX12_lost 1 = .ok (.iconst 0, 1) := by decide +kernel
theorem dX12_lost_2 : decode cX12_lost 2 = .ok (.putfield 67, 3) := by decide +kernel
theorem dX12_lost_5 : decode cX12_lost 5 = .ok (.iload_n 1, 1) := by decide +kernel
theorem dX12_lost_6 : decode cX12_lost 6 = .ok (.invokestatic 422, 3) := by decide +kernel
theorem dX12_lost_9 : decode cX12_lost 9 = .ok (.ifCond .eq 11, 3) := by decide +kernel
theorem dX12_lost_12 : decode cX12_lost 12 = .ok (.aload_n 0, 1) := by decide +kernel
theorem dX12_lost_13 : decode cX12_lost 13 = .ok (.iload_n 1, 1) := by decide +kernel
theorem dX12_lost_14 : decode cX12_lost 14 = .ok (.invokevirtual 425, 3) := by decide +kernel
theorem dX12_lost_17 : decode cX12_lost 17 = .ok (.goto 8, 3) := by decide +kernel
theorem dX12_lost_20 : decode cX12_lost 20 = .ok (.aload_n 0, 1) := by decide +kernel
theorem dX12_lost_21 : decode cX12_lost 21 = .ok (.iconst 1, 1) := by decide +kernel
theorem dX12_lost_22 : decode cX12_lost 22 = .ok (.invokevirtual 234, 3) := by decide +kernel
theorem dX12_lost_25 : decode cX12_lost 25 = .ok (.ireturn, 1) := by decide +kernel
theorem dX12_clear_0 : decode cX12_clear 0 = .ok (.aload_n 0, 1) := by decide +kernel
theorem dX12_clear_1 : decode cX12_clear 1 = .ok (.iconst 0, 1) := by decide +kernel
theorem dX12_clear_2 : decode cX12_clear 2 = .ok (.putfield 67, 3) := by decide +kernel
theorem dX12_clear_5 : decode cX12_clear 5 = .ok (.aload_n 0, 1) := by decide +kernel
theorem dX12_clear_6 : decode cX12_clear 6 = .ok (.invokevirtual 380, 3) := by decide +kernel
theorem dX12_clear_9 : decode cX12_clear 9 = .ok (.iconst 0, 1) := by decide +kernel
theorem dX12_clear_10 : decode cX12_clear 10 = .ok (.istore_n 1, 1) := by decide +kernel
theorem dX12_clear_11 : decode cX12_clear 11 = .ok (.iload_n 1, 1) := by decide +kernel
theorem dX12_clear_12 : decode cX12_clear 12 = .ok (.sipush 200, 3) := by decide +kernel
theorem dX12_clear_15 : decode cX12_clear 15 = .ok (.if_icmp .gt 22, 3) := by decide +kernel
theorem dX12_clear_18 : decode cX12_clear 18 = .ok (.aload_n 0, 1) := by decide +kernel
theorem dX12_clear_19 : decode cX12_clear 19 = .ok (.bipush 36, 2) := by decide +kernel
theorem dX12_clear_21 : decode cX12_clear 21 = .ok (.invokevirtual 389, 3) := by decide +kernel
theorem dX12_clear_24 : decode cX12_clear 24 = .ok (.ifCond .le 13, 3) := by decide +kernel
theorem dX12_clear_27 : decode cX12_clear 27 = .ok (.aload_n 0, 1) := by decide +kernel
theorem dX12_clear_28 : decode cX12_clear 28 = .ok (.invokevirtual 356, 3) := by decide +kernel
theorem dX12_clear_31 : decode cX12_clear 31 = .ok (.iinc 1 1, 3) := by decide +kernel
theorem dX12_clear_34 : decode cX12_clear 34 = .ok (.goto (-23), 3) := by decide +kernel
theorem dX12_clear_37 : decode cX12_clear 37 = .ok (.aload_n 0, 1) := by decide +kernel
theorem dX12_clear_38 : decode cX12_clear 38 = .ok (.invokevirtual 392, 3) := by decide +kernel
theorem dX12_clear_41 : decode cX12_clear 41 = .ok (.iload_n 1, 1) := by decide +kernel
theorem dX12_clear_42 : decode cX12_clear 42 = .ok (.sipush 200, 3) := by decide +kernel
theorem dX12_clear_45 : decode cX12_clear 45 = .ok (.if_icmp .le 7, 3) := by decide +kernel
theorem dX12_clear_48 : decode cX12_clear 48 = .ok (.iconst (-1), 1) := by decide +kernel
theorem dX12_clear_49 : decode cX12_clear 49 = .ok (.goto 4, 3) := by decide +kernel
theorem dX12_clear_52 : decode cX12_clear 52 = .ok (.iload_n 1, 1) := by decide +kernel
theorem dX12_clear_53 : decode cX12_clear 53 = .ok (.ireturn, 1) := by decide +kernel
theorem dX12_seaIn_0 : decode cX12_seaIn 0 = .ok (.aload_n 0, 1) := by decide +kernel
theorem dX12_seaIn_1 : decode cX12_seaIn 1 = .ok (.iconst 0, 1) := by decide +kernel
theorem dX12_seaIn_2 : decode cX12_seaIn 2 = .ok (.putfield 67, 3) := by decide +kernel
theorem dX12_seaIn_5 : decode cX12_seaIn 5 = .ok (.iload_n 1, 1) := by decide +kernel
theorem dX12_seaIn_6 : decode cX12_seaIn 6 = .ok (.i2l, 1) := by decide +kernel
theorem dX12_seaIn_7 : decode cX12_seaIn 7 = .ok (.lconst 0, 1) := by decide +kernel
theorem dX12_seaIn_8 : decode cX12_seaIn 8 = .ok (.ldc2_w 369, 3) := by decide +kernel
theorem dX12_seaIn_11 : decode cX12_seaIn 11 = .ok (.invokestatic 128, 3) := by decide +kernel
theorem dX12_seaIn_14 : decode cX12_seaIn 14 = .ok (.ifCond .eq 13, 3) := by decide +kernel
theorem dX12_seaIn_17 : decode cX12_seaIn 17 = .ok (.aload_n 0, 1) := by decide +kernel
theorem dX12_seaIn_18 : decode cX12_seaIn 18 = .ok (.bipush 50, 2) := by decide +kernel
theorem dX12_seaIn_20 : decode cX12_seaIn 20 = .ok (.iload_n 1, 1) := by decide +kernel
theorem dX12_seaIn_21 : decode cX12_seaIn 21 = .ok (.invokevirtual 410, 3) := by decide +kernel
theorem dX12_seaIn_24 : decode cX12_seaIn 24 = .ok (.goto 8, 3) := by decide +kernel
theorem dX12_seaIn_27 : decode cX12_seaIn 27 = .ok (.aload_n 0, 1) := by decide +kernel
theorem dX12_seaIn_28 : decode cX12_seaIn 28 = .ok (.iconst 1, 1) := by decide +kernel
theorem dX12_seaIn_29 : decode cX12_seaIn 29 = .ok (.invokevirtual 234, 3) := by decide +kernel
theorem dX12_seaIn_32 : decode cX12_seaIn 32 = .ok (.ireturn, 1) := by decide +kernel
theorem dX12_burdenFromHere_0 : decode cX12_burdenFromHere 0 = .ok (.lconst 0, 1) := by decide +kernel
theorem dX12_burdenFromHere_1 : decode cX12_burdenFromHere 1 = .ok (.lstore_n 3, 1) := by decide +kernel
theorem dX12_burdenFromHere_2 : decode cX12_burdenFromHere 2 = .ok (.iconst 0, 1) := by decide +kernel
theorem dX12_burdenFromHere_3 : decode cX12_burdenFromHere 3 = .ok (.istore 5, 2) := by decide +kernel
theorem dX12_burdenFromHere_5 : decode cX12_burdenFromHere 5 = .ok (.iload 5, 2) := by decide +kernel
theorem dX12_burdenFromHere_7 : decode cX12_burdenFromHere 7 = .ok (.iload_n 2, 1) := by decide +kernel
theorem dX12_burdenFromHere_8 : decode cX12_burdenFromHere 8 = .ok (.if_icmp .ge 23, 3) := by decide +kernel
theorem dX12_burdenFromHere_11 : decode cX12_burdenFromHere 11 = .ok (.aload_n 0, 1) := by decide +kernel
theorem dX12_burdenFromHere_12 : decode cX12_burdenFromHere 12 = .ok (.invokevirtual 356, 3) := by decide +kernel
theorem dX12_burdenFromHere_15 : decode cX12_burdenFromHere 15 = .ok (.lload_n 3, 1) := by decide +kernel
theorem dX12_burdenFromHere_16 : decode cX12_burdenFromHere 16 = .ok (.aload_n 0, 1) := by decide +kernel
theorem dX12_burdenFromHere_17 : decode cX12_burdenFromHere 17 = .ok (.getfield 36, 3) := by decide +kernel
theorem dX12_burdenFromHere_20 : decode cX12_burdenFromHere 20 = .ok (.iload_n 1, 1) := by decide +kernel
theorem dX12_burdenFromHere_21 : decode cX12_burdenFromHere 21 = .ok (.iaload, 1) := by decide +kernel
theorem dX12_burdenFromHere_22 : decode cX12_burdenFromHere 22 = .ok (.i2l, 1) := by decide +kernel
theorem dX12_burdenFromHere_23 : decode cX12_burdenFromHere 23 = .ok (.ladd, 1) := by decide +kernel
theorem dX12_burdenFromHere_24 : decode cX12_burdenFromHere 24 = .ok (.lstore_n 3, 1) := by decide +kernel
theorem dX12_burdenFromHere_25 : decode cX12_burdenFromHere 25 = .ok (.iinc 5 1, 3) := by decide +kernel
theorem dX12_burdenFromHere_28 : decode cX12_burdenFromHere 28 = .ok (.goto (-23), 3) := by decide +kernel
theorem dX12_burdenFromHere_31 : decode cX12_burdenFromHere 31 = .ok (.aload_n 0, 1) := by decide +kernel
theorem dX12_burdenFromHere_32 : decode cX12_burdenFromHere 32 = .ok (.invokevirtual 392, 3) := by decide +kernel
theorem dX12_burdenFromHere_35 : decode cX12_burdenFromHere 35 = .ok (.lload_n 3, 1) := by decide +kernel
theorem dX12_burdenFromHere_36 : decode cX12_burdenFromHere 36 = .ok (.lreturn, 1) := by decide +kernel
theorem dX12_burdenNow_0 : decode cX12_burdenNow 0 = .ok (.aload_n 0, 1) := by decide +kernel
theorem dX12_burdenNow_1 : decode cX12_burdenNow 1 = .ok (.invokevirtual 380, 3) := by decide +kernel
theorem dX12_burdenNow_4 : decode cX12_burdenNow 4 = .ok (.aload_n 0, 1) := by decide +kernel
theorem dX12_burdenNow_5 : decode cX12_burdenNow 5 = .ok (.iload_n 1, 1) := by decide +kernel
theorem dX12_burdenNow_6 : decode cX12_burdenNow 6 = .ok (.iload_n 2, 1) := by decide +kernel
theorem dX12_burdenNow_7 : decode cX12_burdenNow 7 = .ok (.invokevirtual 428, 3) := by decide +kernel
theorem dX12_burdenNow_10 : decode cX12_burdenNow 10 = .ok (.lreturn, 1) := by decide +kernel
theorem dX12_isSoonOut_0 : decode cX12_isSoonOut 0 = .ok (.aload_n 0, 1) := by decide +kernel
theorem dX12_isSoonOut_1 : decode cX12_isSoonOut 1 = .ok (.aload_n 0, 1) := by decide +kernel
theorem dX12_isSoonOut_2 : decode cX12_isSoonOut 2 = .ok (.iload_n 1, 1) := by decide +kernel
theorem dX12_isSoonOut_3 : decode cX12_isSoonOut 3 = .ok (.i2l, 1) := by decide +kernel
theorem dX12_isSoonOut_4 : decode cX12_isSoonOut 4 = .ok (.invokevirtual 313, 3) := by decide +kernel
theorem dX12_isSoonOut_7 : decode cX12_isSoonOut 7 = .ok (.ifCond .ne 7, 3) := by decide +kernel
theorem dX12_isSoonOut_10 : decode cX12_isSoonOut 10 = .ok (.iconst 1, 1) := by decide +kernel
theorem dX12_isSoonOut_11 : decode cX12_isSoonOut 11 = .ok (.goto 15, 3) := by decide +kernel
theorem dX12_isSoonOut_14 : decode cX12_isSoonOut 14 = .ok (.iload_n 2, 1) := by decide +kernel
theorem dX12_isSoonOut_15 : decode cX12_isSoonOut 15 = .ok (.invokestatic 422, 3) := by decide +kernel
theorem dX12_isSoonOut_18 : decode cX12_isSoonOut 18 = .ok (.ifCond .eq 7, 3) := by decide +kernel
theorem dX12_isSoonOut_21 : decode cX12_isSoonOut 21 = .ok (.iconst 0, 1) := by decide +kernel
theorem dX12_isSoonOut_22 : decode cX12_isSoonOut 22 = .ok (.goto 4, 3) := by decide +kernel
theorem dX12_isSoonOut_25 : decode cX12_isSoonOut 25 = .ok (.iconst 2, 1) := by decide +kernel
theorem dX12_isSoonOut_26 : decode cX12_isSoonOut 26 = .ok (.putfield 67, 3) := by decide +kernel
theorem dX12_isSoonOut_29 : decode cX12_isSoonOut 29 = .ok (.aload_n 0, 1) := by decide +kernel
theorem dX12_isSoonOut_30 : decode cX12_isSoonOut 30 = .ok (.getfield 67, 3) := by decide +kernel
theorem dX12_isSoonOut_33 : decode cX12_isSoonOut 33 = .ok (.ifCond .le 7, 3) := by decide +kernel
theorem dX12_isSoonOut_36 : decode cX12_isSoonOut 36 = .ok (.iconst 1, 1) := by decide +kernel
theorem dX12_isSoonOut_37 : decode cX12_isSoonOut 37 = .ok (.goto 4, 3) := by decide +kernel
theorem dX12_isSoonOut_40 : decode cX12_isSoonOut 40 = .ok (.iconst 0, 1) := by decide +kernel
theorem dX12_isSoonOut_41 : decode cX12_isSoonOut 41 = .ok (.ireturn, 1) := by decide +kernel
theorem dX12_burden_0 : decode cX12_burden 0 = .ok (.aload_n 0, 1) := by decide +kernel
theorem dX12_burden_1 : decode cX12_burden 1 = .ok (.iload_n 1, 1) := by decide +kernel
theorem dX12_burden_2 : decode cX12_burden 2 = .ok (.iload_n 2, 1) := by decide +kernel
theorem dX12_burden_3 : decode cX12_burden 3 = .ok (.invokevirtual 432, 3) := by decide +kernel
theorem dX12_burden_6 : decode cX12_burden 6 = .ok (.ifCond .eq 7, 3) := by decide +kernel
theorem dX12_burden_9 : decode cX12_burden 9 = .ok (.lconst 0, 1) := by decide +kernel
theorem dX12_burden_10 : decode cX12_burden 10 = .ok (.goto 9, 3) := by decide +kernel
theorem dX12_burden_13 : decode cX12_burden 13 = .ok (.aload_n 0, 1) := by decide +kernel
theorem dX12_burden_14 : decode cX12_burden 14 = .ok (.iload_n 1, 1) := by decide +kernel
theorem dX12_burden_15 : decode cX12_burden 15 = .ok (.iload_n 2, 1) := by decide +kernel
theorem dX12_burden_16 : decode cX12_burden 16 = .ok (.invokevirtual 436, 3) := by decide +kernel
theorem dX12_burden_19 : decode cX12_burden 19 = .ok (.lreturn, 1) := by decide +kernel
theorem dX12_heaviest_0 : decode cX12_heaviest 0 = .ok (.aload_n 0, 1) := by decide +kernel
theorem dX12_heaviest_1 : decode cX12_heaviest 1 = .ok (.iconst 0, 1) := by decide +kernel
theorem dX12_heaviest_2 : decode cX12_heaviest 2 = .ok (.putfield 67, 3) := by decide +kernel
theorem dX12_heaviest_5 : decode cX12_heaviest 5 = .ok (.iload_n 1, 1) := by decide +kernel
theorem dX12_heaviest_6 : decode cX12_heaviest 6 = .ok (.invokestatic 422, 3) := by decide +kernel
theorem dX12_heaviest_9 : decode cX12_heaviest 9 = .ok (.ifCond .ne 9, 3) := by decide +kernel
theorem dX12_heaviest_12 : decode cX12_heaviest 12 = .ok (.aload_n 0, 1) := by decide +kernel
theorem dX12_heaviest_13 : decode cX12_heaviest 13 = .ok (.iconst 1, 1) := by decide +kernel
theorem dX12_heaviest_14 : decode cX12_heaviest 14 = .ok (.invokevirtual 234, 3) := by decide +kernel
theorem dX12_heaviest_17 : decode cX12_heaviest 17 = .ok (.ireturn, 1) := by decide +kernel
theorem dX12_heaviest_18 : decode cX12_heaviest 18 = .ok (.iconst (-1), 1) := by decide +kernel
theorem dX12_heaviest_19 : decode cX12_heaviest 19 = .ok (.istore_n 2, 1) := by decide +kernel
theorem dX12_heaviest_20 : decode cX12_heaviest 20 = .ok (.ldc2_w 363, 3) := by decide +kernel
theorem dX12_heaviest_23 : decode cX12_heaviest 23 = .ok (.lstore_n 3, 1) := by decide +kernel
theorem dX12_heaviest_24 : decode cX12_heaviest 24 = .ok (.iconst 0, 1) := by decide +kernel
theorem dX12_heaviest_25 : decode cX12_heaviest 25 = .ok (.istore 5, 2) := by decide +kernel
theorem dX12_heaviest_27 : decode cX12_heaviest 27 = .ok (.iload 5, 2) := by decide +kernel
theorem dX12_heaviest_29 : decode cX12_heaviest 29 = .ok (.aload_n 0, 1) := by decide +kernel
theorem dX12_heaviest_30 : decode cX12_heaviest 30 = .ok (.invokevirtual 249, 3) := by decide +kernel
theorem dX12_heaviest_33 : decode cX12_heaviest 33 = .ok (.if_icmp .ge 34, 3) := by decide +kernel
theorem dX12_heaviest_36 : decode cX12_heaviest 36 = .ok (.aload_n 0, 1) := by decide +kernel
theorem dX12_heaviest_37 : decode cX12_heaviest 37 = .ok (.iload 5, 2) := by decide +kernel
theorem dX12_heaviest_39 : decode cX12_heaviest 39 = .ok (.iload_n 1, 1) := by decide +kernel
theorem dX12_heaviest_40 : decode cX12_heaviest 40 = .ok (.invokevirtual 436, 3) := by decide +kernel
theorem dX12_heaviest_43 : decode cX12_heaviest 43 = .ok (.lstore 6, 2) := by decide +kernel
theorem dX12_heaviest_45 : decode cX12_heaviest 45 = .ok (.lload 6, 2) := by decide +kernel
theorem dX12_heaviest_47 : decode cX12_heaviest 47 = .ok (.lload_n 3, 1) := by decide +kernel
theorem dX12_heaviest_48 : decode cX12_heaviest 48 = .ok (.lcmp, 1) := by decide +kernel
theorem dX12_heaviest_49 : decode cX12_heaviest 49 = .ok (.ifCond .gt 6, 3) := by decide +kernel
theorem dX12_heaviest_52 : decode cX12_heaviest 52 = .ok (.goto 9, 3) := by decide +kernel
theorem dX12_heaviest_55 : decode cX12_heaviest 55 = .ok (.iload 5, 2) := by decide +kernel
theorem dX12_heaviest_57 : decode cX12_heaviest 57 = .ok (.istore_n 2, 1) := by decide +kernel
theorem dX12_heaviest_58 : decode cX12_heaviest 58 = .ok (.lload 6, 2) := by decide +kernel
theorem dX12_heaviest_60 : decode cX12_heaviest 60 = .ok (.lstore_n 3, 1) := by decide +kernel
theorem dX12_heaviest_61 : decode cX12_heaviest 61 = .ok (.iinc 5 1, 3) := by decide +kernel
theorem dX12_heaviest_64 : decode cX12_heaviest 64 = .ok (.goto (-37), 3) := by decide +kernel
theorem dX12_heaviest_67 : decode cX12_heaviest 67 = .ok (.iload_n 2, 1) := by decide +kernel
theorem dX12_heaviest_68 : decode cX12_heaviest 68 = .ok (.ireturn, 1) := by decide +kernel
theorem dX12_paid_0 : decode cX12_paid 0 = .ok (.aload_n 0, 1) := by decide +kernel
theorem dX12_paid_1 : decode cX12_paid 1 = .ok (.iconst 0, 1) := by decide +kernel
theorem dX12_paid_2 : decode cX12_paid 2 = .ok (.putfield 67, 3) := by decide +kernel
theorem dX12_paid_5 : decode cX12_paid 5 = .ok (.iload_n 1, 1) := by decide +kernel
theorem dX12_paid_6 : decode cX12_paid 6 = .ok (.invokestatic 422, 3) := by decide +kernel
theorem dX12_paid_9 : decode cX12_paid 9 = .ok (.ifCond .ne 10, 3) := by decide +kernel
theorem dX12_paid_12 : decode cX12_paid 12 = .ok (.aload_n 0, 1) := by decide +kernel
theorem dX12_paid_13 : decode cX12_paid 13 = .ok (.iconst 1, 1) := by decide +kernel
theorem dX12_paid_14 : decode cX12_paid 14 = .ok (.invokevirtual 234, 3) := by decide +kernel
theorem dX12_paid_17 : decode cX12_paid 17 = .ok (.i2l, 1) := by decide +kernel
theorem dX12_paid_18 : decode cX12_paid 18 = .ok (.lreturn, 1) := by decide +kernel
theorem dX12_paid_19 : decode cX12_paid 19 = .ok (.aload_n 0, 1) := by decide +kernel
theorem dX12_paid_20 : decode cX12_paid 20 = .ok (.invokevirtual 380, 3) := by decide +kernel
theorem dX12_paid_23 : decode cX12_paid 23 = .ok (.lconst 0, 1) := by decide +kernel
theorem dX12_paid_24 : decode cX12_paid 24 = .ok (.lstore_n 2, 1) := by decide +kernel
theorem dX12_paid_25 : decode cX12_paid 25 = .ok (.iconst 0, 1) := by decide +kernel
theorem dX12_paid_26 : decode cX12_paid 26 = .ok (.istore 4, 2) := by decide +kernel
theorem dX12_paid_28 : decode cX12_paid 28 = .ok (.iload 4, 2) := by decide +kernel
theorem dX12_paid_30 : decode cX12_paid 30 = .ok (.iload_n 1, 1) := by decide +kernel
theorem dX12_paid_31 : decode cX12_paid 31 = .ok (.if_icmp .ge 21, 3) := by decide +kernel
theorem dX12_paid_34 : decode cX12_paid 34 = .ok (.aload_n 0, 1) := by decide +kernel
theorem dX12_paid_35 : decode cX12_paid 35 = .ok (.invokevirtual 356, 3) := by decide +kernel
theorem dX12_paid_38 : decode cX12_paid 38 = .ok (.lload_n 2, 1) := by decide +kernel
theorem dX12_paid_39 : decode cX12_paid 39 = .ok (.aload_n 0, 1) := by decide +kernel
theorem dX12_paid_40 : decode cX12_paid 40 = .ok (.getfield 285, 3) := by decide +kernel
theorem dX12_paid_43 : decode cX12_paid 43 = .ok (.i2l, 1) := by decide +kernel
theorem dX12_paid_44 : decode cX12_paid 44 = .ok (.ladd, 1) := by decide +kernel
theorem dX12_paid_45 : decode cX12_paid 45 = .ok (.lstore_n 2, 1) := by decide +kernel
theorem dX12_paid_46 : decode cX12_paid 46 = .ok (.iinc 4 1, 3) := by decide +kernel
theorem dX12_paid_49 : decode cX12_paid 49 = .ok (.goto (-21), 3) := by decide +kernel
theorem dX12_paid_52 : decode cX12_paid 52 = .ok (.aload_n 0, 1) := by decide +kernel
theorem dX12_paid_53 : decode cX12_paid 53 = .ok (.invokevirtual 392, 3) := by decide +kernel
theorem dX12_paid_56 : decode cX12_paid 56 = .ok (.lload_n 2, 1) := by decide +kernel
theorem dX12_paid_57 : decode cX12_paid 57 = .ok (.lreturn, 1) := by decide +kernel
theorem dX12_moves_0 : decode cX12_moves 0 = .ok (.iconst 0, 1) := by decide +kernel
theorem dX12_moves_1 : decode cX12_moves 1 = .ok (.istore_n 1, 1) := by decide +kernel
theorem dX12_moves_2 : decode cX12_moves 2 = .ok (.iload_n 1, 1) := by decide +kernel
theorem dX12_moves_3 : decode cX12_moves 3 = .ok (.aload_n 0, 1) := by decide +kernel
theorem dX12_moves_4 : decode cX12_moves 4 = .ok (.invokevirtual 249, 3) := by decide +kernel
theorem dX12_moves_7 : decode cX12_moves 7 = .ok (.if_icmp .ge 54, 3) := by decide +kernel
theorem dX12_moves_10 : decode cX12_moves 10 = .ok (.iconst 0, 1) := by decide +kernel
theorem dX12_moves_11 : decode cX12_moves 11 = .ok (.istore_n 2, 1) := by decide +kernel
theorem dX12_moves_12 : decode cX12_moves 12 = .ok (.iload_n 2, 1) := by decide +kernel
theorem dX12_moves_13 : decode cX12_moves 13 = .ok (.iconst 4, 1) := by decide +kernel
theorem dX12_moves_14 : decode cX12_moves 14 = .ok (.if_icmp .ge 41, 3) := by decide +kernel
theorem dX12_moves_17 : decode cX12_moves 17 = .ok (.aload_n 0, 1) := by decide +kernel
theorem dX12_moves_18 : decode cX12_moves 18 = .ok (.getfield 9, 3) := by decide +kernel
theorem dX12_moves_21 : decode cX12_moves 21 = .ok (.bipush 8, 2) := by decide +kernel
theorem dX12_moves_23 : decode cX12_moves 23 = .ok (.bipush 7, 2) := by decide +kernel
theorem dX12_moves_25 : decode cX12_moves 25 = .ok (.iload_n 2, 1) := by decide +kernel
theorem dX12_moves_26 : decode cX12_moves 26 = .ok (.imul, 1) := by decide +kernel
theorem dX12_moves_27 : decode cX12_moves 27 = .ok (.iadd, 1) := by decide +kernel
theorem dX12_moves_28 : decode cX12_moves 28 = .ok (.iload_n 1, 1) := by decide +kernel
theorem dX12_moves_29 : decode cX12_moves 29 = .ok (.iadd, 1) := by decide +kernel
theorem dX12_moves_30 : decode cX12_moves 30 = .ok (.aload_n 0, 1) := by decide +kernel
theorem dX12_moves_31 : decode cX12_moves 31 = .ok (.getfield 42, 3) := by decide +kernel
theorem dX12_moves_34 : decode cX12_moves 34 = .ok (.iconst 0, 1) := by decide +kernel
theorem dX12_moves_35 : decode cX12_moves 35 = .ok (.bipush 7, 2) := by decide +kernel
theorem dX12_moves_37 : decode cX12_moves 37 = .ok (.iload_n 2, 1) := by decide +kernel
theorem dX12_moves_38 : decode cX12_moves 38 = .ok (.imul, 1) := by decide +kernel
theorem dX12_moves_39 : decode cX12_moves 39 = .ok (.iadd, 1) := by decide +kernel
theorem dX12_moves_40 : decode cX12_moves 40 = .ok (.aload_n 0, 1) := by decide +kernel
theorem dX12_moves_41 : decode cX12_moves 41 = .ok (.getfield 45, 3) := by decide +kernel
theorem dX12_moves_44 : decode cX12_moves 44 = .ok (.iload_n 1, 1) := by decide +kernel
theorem dX12_moves_45 : decode cX12_moves 45 = .ok (.iaload, 1) := by decide +kernel
theorem dX12_moves_46 : decode cX12_moves 46 = .ok (.iadd, 1) := by decide +kernel
theorem dX12_moves_47 : decode cX12_moves 47 = .ok (.iaload, 1) := by decide +kernel
theorem dX12_moves_48 : decode cX12_moves 48 = .ok (.iastore, 1) := by decide +kernel
theorem dX12_moves_49 : decode cX12_moves 49 = .ok (.iinc 2 1, 3) := by decide +kernel
theorem dX12_moves_52 : decode cX12_moves 52 = .ok (.goto (-40), 3) := by decide +kernel
theorem dX12_moves_55 : decode cX12_moves 55 = .ok (.iinc 1 1, 3) := by decide +kernel
theorem dX12_moves_58 : decode cX12_moves 58 = .ok (.goto (-56), 3) := by decide +kernel
theorem dX12_moves_61 : decode cX12_moves 61 = .ok (.return_, 1) := by decide +kernel
theorem dX12_goesOrders_0 : decode cX12_goesOrders 0 = .ok (.iload_n 1, 1) := by decide +kernel
theorem dX12_goesOrders_1 : decode cX12_goesOrders 1 = .ok (.aload_n 0, 1) := by decide +kernel
theorem dX12_goesOrders_2 : decode cX12_goesOrders 2 = .ok (.invokevirtual 249, 3) := by decide +kernel
theorem dX12_goesOrders_5 : decode cX12_goesOrders 5 = .ok (.if_icmp .ne 96, 3) := by decide +kernel
theorem dX12_goesOrders_8 : decode cX12_goesOrders 8 = .ok (.aload_n 0, 1) := by decide +kernel
theorem dX12_goesOrders_9 : decode cX12_goesOrders 9 = .ok (.invokevirtual 439, 3) := by decide +kernel
theorem dX12_goesOrders_12 : decode cX12_goesOrders 12 = .ok (.aload_n 0, 1) := by decide +kernel
theorem dX12_goesOrders_13 : decode cX12_goesOrders 13 = .ok (.iload_n 3, 1) := by decide +kernel
theorem dX12_goesOrders_14 : decode cX12_goesOrders 14 = .ok (.invokevirtual 419, 3) := by decide +kernel
theorem dX12_goesOrders_17 : decode cX12_goesOrders 17 = .ok (.istore 4, 2) := by decide +kernel
theorem dX12_goesOrders_19 : decode cX12_goesOrders 19 = .ok (.aload_n 0, 1) := by decide +kernel
theorem dX12_goesOrders_20 : decode cX12_goesOrders 20 = .ok (.iload 4, 2) := by decide +kernel
theorem dX12_goesOrders_22 : decode cX12_goesOrders 22 = .ok (.aload_n 0, 1) := by decide +kernel
theorem dX12_goesOrders_23 : decode cX12_goesOrders 23 = .ok (.getfield 442, 3) := by decide +kernel
theorem dX12_goesOrders_26 : decode cX12_goesOrders 26 = .ok (.if_icmp .ge 7, 3) := by decide +kernel
theorem dX12_goesOrders_29 : decode cX12_goesOrders 29 = .ok (.iconst 1, 1) := by decide +kernel
theorem dX12_goesOrders_30 : decode cX12_goesOrders 30 = .ok (.goto 22, 3) := by decide +kernel
theorem dX12_goesOrders_33 : decode cX12_goesOrders 33 = .ok (.aload_n 0, 1) := by decide +kernel
theorem dX12_goesOrders_34 : decode cX12_goesOrders 34 = .ok (.getfield 445, 3) := by decide +kernel
theorem dX12_goesOrders_37 : decode cX12_goesOrders 37 = .ok (.iload 4, 2) := by decide +kernel
theorem dX12_goesOrders_39 : decode cX12_goesOrders 39 = .ok (.aload_n 0, 1) := by decide +kernel
theorem dX12_goesOrders_40 : decode cX12_goesOrders 40 = .ok (.getfield 442, 3) := by decide +kernel
theorem dX12_goesOrders_43 : decode cX12_goesOrders 43 = .ok (.if_icmp .ne 7, 3) := by decide +kernel
theorem dX12_goesOrders_46 : decode cX12_goesOrders 46 = .ok (.iconst 1, 1) := by decide +kernel
theorem dX12_goesOrders_47 : decode cX12_goesOrders 47 = .ok (.goto 4, 3) := by decide +kernel
theorem dX12_goesOrders_50 : decode cX12_goesOrders 50 = .ok (.iconst 0, 1) := by decide +kernel
theorem dX12_goesOrders_51 : decode cX12_goesOrders 51 = .ok (.iadd, 1) := by decide +kernel
theorem dX12_goesOrders_52 : decode cX12_goesOrders 52 = .ok (.putfield 445, 3) := by decide +kernel
theorem dX12_goesOrders_55 : decode cX12_goesOrders 55 = .ok (.iload 4, 2) := by decide +kernel
theorem dX12_goesOrders_57 : decode cX12_goesOrders 57 = .ok (.aload_n 0, 1) := by decide +kernel
theorem dX12_goesOrders_58 : decode cX12_goesOrders 58 = .ok (.getfield 442, 3) := by decide +kernel
theorem dX12_goesOrders_61 : decode cX12_goesOrders 61 = .ok (.if_icmp .lt 4, 3) := by decide +kernel
theorem dX12_goesOrders_64 : decode cX12_goesOrders 64 = .ok (.return_, 1) := by decide +kernel
theorem dX12_goesOrders_65 : decode cX12_goesOrders 65 = .ok (.aload_n 0, 1) := by decide +kernel
theorem dX12_goesOrders_66 : decode cX12_goesOrders 66 = .ok (.iload 4, 2) := by decide +kernel
theorem dX12_goesOrders_68 : decode cX12_goesOrders 68 = .ok (.putfield 442, 3) := by decide +kernel
theorem dX12_goesOrders_71 : decode cX12_goesOrders 71 = .ok (.iconst 0, 1) := by decide +kernel
theorem dX12_goesOrders_72 : decode cX12_goesOrders 72 = .ok (.istore 5, 2) := by decide +kernel
theorem dX12_goesOrders_74 : decode cX12_goesOrders 74 = .ok (.iload 5, 2) := by decide +kernel
theorem dX12_goesOrders_76 : decode cX12_goesOrders 76 = .ok (.iload_n 1, 1) := by decide +kernel
theorem dX12_goesOrders_77 : decode cX12_goesOrders 77 = .ok (.if_icmp .ge 23, 3) := by decide +kernel
theorem dX12_goesOrders_80 : decode cX12_goesOrders 80 = .ok (.aload_n 0, 1) := by decide +kernel
theorem dX12_goesOrders_81 : decode cX12_goesOrders 81 = .ok (.getfield 48, 3) := by decide +kernel
theorem dX12_goesOrders_84 : decode cX12_goesOrders 84 = .ok (.iload 5, 2) := by decide +kernel
theorem dX12_goesOrders_86 : decode cX12_goesOrders 86 = .ok (.aload_n 0, 1) := by decide +kernel
theorem dX12_goesOrders_87 : decode cX12_goesOrders 87 = .ok (.getfield 45, 3) := by decide +kernel
theorem dX12_goesOrders_90 : decode cX12_goesOrders 90 = .ok (.iload 5, 2) := by decide +kernel
theorem dX12_goesOrders_92 : decode cX12_goesOrders 92 = .ok (.iaload, 1) := by decide +kernel
theorem dX12_goesOrders_93 : decode cX12_goesOrders 93 = .ok (.iastore, 1) := by decide +kernel
theorem dX12_goesOrders_94 : decode cX12_goesOrders 94 = .ok (.iinc 5 1, 3) := by decide +kernel
theorem dX12_goesOrders_97 : decode cX12_goesOrders 97 = .ok (.goto (-23), 3) := by decide +kernel
theorem dX12_goesOrders_100 : decode cX12_goesOrders 100 = .ok (.return_, 1) := by decide +kernel
theorem dX12_goesOrders_101 : decode cX12_goesOrders 101 = .ok (.iconst 0, 1) := by decide +kernel
theorem dX12_goesOrders_102 : decode cX12_goesOrders 102 = .ok (.istore 4, 2) := by decide +kernel
theorem dX12_goesOrders_104 : decode cX12_goesOrders 104 = .ok (.iload 4, 2) := by decide +kernel
theorem dX12_goesOrders_106 : decode cX12_goesOrders 106 = .ok (.aload_n 0, 1) := by decide +kernel
theorem dX12_goesOrders_107 : decode cX12_goesOrders 107 = .ok (.invokevirtual 249, 3) := by decide +kernel
theorem dX12_goesOrders_110 : decode cX12_goesOrders 110 = .ok (.if_icmp .ge 43, 3) := by decide +kernel
theorem dX12_goesOrders_113 : decode cX12_goesOrders 113 = .ok (.iload_n 2, 1) := by decide +kernel
theorem dX12_goesOrders_114 : decode cX12_goesOrders 114 = .ok (.iload 4, 2) := by decide +kernel
theorem dX12_goesOrders_116 : decode cX12_goesOrders 116 = .ok (.invokestatic 448, 3) := by decide +kernel
theorem dX12_goesOrders_119 : decode cX12_goesOrders 119 = .ok (.ifCond .eq 6, 3) := by decide +kernel
theorem dX12_goesOrders_122 : decode cX12_goesOrders 122 = .ok (.goto 25, 3) := by decide +kernel
theorem dX12_goesOrders_125 : decode cX12_goesOrders 125 = .ok (.aload_n 0, 1) := by decide +kernel
theorem dX12_goesOrders_126 : decode cX12_goesOrders 126 = .ok (.getfield 45, 3) := by decide +kernel
theorem dX12_goesOrders_129 : decode cX12_goesOrders 129 = .ok (.iload_n 1, 1) := by decide +kernel
theorem dX12_goesOrders_130 : decode cX12_goesOrders 130 = .ok (.iload 4, 2) := by decide +kernel
theorem dX12_goesOrders_132 : decode cX12_goesOrders 132 = .ok (.iastore, 1) := by decide +kernel
theorem dX12_goesOrders_133 : decode cX12_goesOrders 133 = .ok (.aload_n 0, 1) := by decide +kernel
theorem dX12_goesOrders_134 : decode cX12_goesOrders 134 = .ok (.iload_n 1, 1) := by decide +kernel
theorem dX12_goesOrders_135 : decode cX12_goesOrders 135 = .ok (.iconst 1, 1) := by decide +kernel
theorem dX12_goesOrders_136 : decode cX12_goesOrders 136 = .ok (.iadd, 1) := by decide +kernel
theorem dX12_goesOrders_137 : decode cX12_goesOrders 137 = .ok (.iload_n 2, 1) := by decide +kernel
theorem dX12_goesOrders_138 : decode cX12_goesOrders 138 = .ok (.iconst 1, 1) := by decide +kernel
theorem dX12_goesOrders_139 : decode cX12_goesOrders 139 = .ok (.iload 4, 2) := by decide +kernel
theorem dX12_goesOrders_141 : decode cX12_goesOrders 141 = .ok (.ishl, 1) := by decide +kernel
theorem dX12_goesOrders_142 : decode cX12_goesOrders 142 = .ok (.ior, 1) := by decide +kernel
theorem dX12_goesOrders_143 : decode cX12_goesOrders 143 = .ok (.iload_n 3, 1) := by decide +kernel
theorem dX12_goesOrders_144 : decode cX12_goesOrders 144 = .ok (.invokevirtual 451, 3) := by decide +kernel
theorem dX12_goesOrders_147 : decode cX12_goesOrders 147 = .ok (.iinc 4 1, 3) := by decide +kernel
theorem dX12_goesOrders_150 : decode cX12_goesOrders 150 = .ok (.goto (-46), 3) := by decide +kernel
theorem dX12_goesOrders_153 : decode cX12_goesOrders 153 = .ok (.return_, 1) := by decide +kernel
theorem dX12_laysOrder_0 : decode cX12_laysOrder 0 = .ok (.aload_n 0, 1) := by decide +kernel
theorem dX12_laysOrder_1 : decode cX12_laysOrder 1 = .ok (.invokevirtual 380, 3) := by decide +kernel
theorem dX12_laysOrder_4 : decode cX12_laysOrder 4 = .ok (.aload_n 0, 1) := by decide +kernel
theorem dX12_laysOrder_5 : decode cX12_laysOrder 5 = .ok (.ldc_w 454, 3) := by decide +kernel
theorem dX12_laysOrder_8 : decode cX12_laysOrder 8 = .ok (.putfield 442, 3) := by decide +kernel
theorem dX12_laysOrder_11 : decode cX12_laysOrder 11 = .ok (.aload_n 0, 1) := by decide +kernel
theorem dX12_laysOrder_12 : decode cX12_laysOrder 12 = .ok (.iconst 0, 1) := by decide +kernel
theorem dX12_laysOrder_13 : decode cX12_laysOrder 13 = .ok (.putfield 445, 3) := by decide +kernel
theorem dX12_laysOrder_16 : decode cX12_laysOrder 16 = .ok (.aload_n 0, 1) := by decide +kernel
theorem dX12_laysOrder_17 : decode cX12_laysOrder 17 = .ok (.iconst 0, 1) := by decide +kernel
theorem dX12_laysOrder_18 : decode cX12_laysOrder 18 = .ok (.iconst 0, 1) := by decide +kernel
theorem dX12_laysOrder_19 : decode cX12_laysOrder 19 = .ok (.iload_n 1, 1) := by decide +kernel
theorem dX12_laysOrder_20 : decode cX12_laysOrder 20 = .ok (.invokevirtual 451, 3) := by decide +kernel
theorem dX12_laysOrder_23 : decode cX12_laysOrder 23 = .ok (.return_, 1) := by decide +kernel
theorem dX12_order_0 : decode cX12_order 0 = .ok (.aload_n 0, 1) := by decide +kernel
theorem dX12_order_1 : decode cX12_order 1 = .ok (.iconst 0, 1) := by decide +kernel
theorem dX12_order_2 : decode cX12_order 2 = .ok (.putfield 67, 3) := by decide +kernel
theorem dX12_order_5 : decode cX12_order 5 = .ok (.iload_n 1, 1) := by decide +kernel
theorem dX12_order_6 : decode cX12_order 6 = .ok (.invokestatic 422, 3) := by decide +kernel
theorem dX12_order_9 : decode cX12_order 9 = .ok (.ifCond .eq 21, 3) := by decide +kernel
theorem dX12_order_12 : decode cX12_order 12 = .ok (.iload_n 2, 1) := by decide +kernel
theorem dX12_order_13 : decode cX12_order 13 = .ok (.ifCond .eq 23, 3) := by decide +kernel
theorem dX12_order_16 : decode cX12_order 16 = .ok (.iload_n 2, 1) := by decide +kernel
theorem dX12_order_17 : decode cX12_order 17 = .ok (.i2l, 1) := by decide +kernel
theorem dX12_order_18 : decode cX12_order 18 = .ok (.ldc2_w 358, 3) := by decide +kernel
theorem dX12_order_21 : decode cX12_order 21 = .ok (.ldc2_w 455, 3) := by decide +kernel
theorem dX12_order_24 : decode cX12_order 24 = .ok (.invokestatic 128, 3) := by decide +kernel
theorem dX12_order_27 : decode cX12_order 27 = .ok (.ifCond .ne 9, 3) := by decide +kernel
theorem dX12_order_30 : decode cX12_order 30 = .ok (.aload_n 0, 1) := by decide +kernel
theorem dX12_order_31 : decode cX12_order 31 = .ok (.iconst 1, 1) := by decide +kernel
theorem dX12_order_32 : decode cX12_order 32 = .ok (.invokevirtual 234, 3) := by decide +kernel
theorem dX12_order_35 : decode cX12_order 35 = .ok (.ireturn, 1) := by decide +kernel
theorem dX12_order_36 : decode cX12_order 36 = .ok (.aload_n 0, 1) := by decide +kernel
theorem dX12_order_37 : decode cX12_order 37 = .ok (.iload_n 1, 1) := by decide +kernel
theorem dX12_order_38 : decode cX12_order 38 = .ok (.invokevirtual 457, 3) := by decide +kernel
theorem dX12_order_41 : decode cX12_order 41 = .ok (.iload_n 2, 1) := by decide +kernel
theorem dX12_order_42 : decode cX12_order 42 = .ok (.ifCond .ne 10, 3) := by decide +kernel
theorem dX12_order_45 : decode cX12_order 45 = .ok (.aload_n 0, 1) := by decide +kernel
theorem dX12_order_46 : decode cX12_order 46 = .ok (.getfield 442, 3) := by decide +kernel
theorem dX12_order_49 : decode cX12_order 49 = .ok (.goto 27, 3) := by decide +kernel
theorem dX12_order_52 : decode cX12_order 52 = .ok (.iload_n 2, 1) := by decide +kernel
theorem dX12_order_53 : decode cX12_order 53 = .ok (.bipush 10, 2) := by decide +kernel
theorem dX12_order_55 : decode cX12_order 55 = .ok (.isub, 1) := by decide +kernel
theorem dX12_order_56 : decode cX12_order 56 = .ok (.aload_n 0, 1) := by decide +kernel
theorem dX12_order_57 : decode cX12_order 57 = .ok (.invokevirtual 249, 3) := by decide +kernel
theorem dX12_order_60 : decode cX12_order 60 = .ok (.if_icmp .ge 15, 3) := by decide +kernel
theorem dX12_order_63 : decode cX12_order 63 = .ok (.aload_n 0, 1) := by decide +kernel
theorem dX12_order_64 : decode cX12_order 64 = .ok (.getfield 48, 3) := by decide +kernel
theorem dX12_order_67 : decode cX12_order 67 = .ok (.iload_n 2, 1) := by decide +kernel
theorem dX12_order_68 : decode cX12_order 68 = .ok (.bipush 10, 2) := by decide +kernel
theorem dX12_order_70 : decode cX12_order 70 = .ok (.isub, 1) := by decide +kernel
theorem dX12_order_71 : decode cX12_order 71 = .ok (.iaload, 1) := by decide +kernel
theorem dX12_order_72 : decode cX12_order 72 = .ok (.goto 4, 3) := by decide +kernel
theorem dX12_order_75 : decode cX12_order 75 = .ok (.iconst (-1), 1) := by decide +kernel
theorem dX12_order_76 : decode cX12_order 76 = .ok (.ireturn, 1) := by decide +kernel
theorem dX12_orders_0 : decode cX12_orders 0 = .ok (.aload_n 0, 1) := by decide +kernel
theorem dX12_orders_1 : decode cX12_orders 1 = .ok (.iconst 0, 1) := by decide +kernel
theorem dX12_orders_2 : decode cX12_orders 2 = .ok (.putfield 67, 3) := by decide +kernel
theorem dX12_orders_5 : decode cX12_orders 5 = .ok (.iload_n 1, 1) := by decide +kernel
theorem dX12_orders_6 : decode cX12_orders 6 = .ok (.invokestatic 422, 3) := by decide +kernel
theorem dX12_orders_9 : decode cX12_orders 9 = .ok (.ifCond .ne 9, 3) := by decide +kernel
theorem dX12_orders_12 : decode cX12_orders 12 = .ok (.aload_n 0, 1) := by decide +kernel
theorem dX12_orders_13 : decode cX12_orders 13 = .ok (.iconst 1, 1) := by decide +kernel
theorem dX12_orders_14 : decode cX12_orders 14 = .ok (.invokevirtual 234, 3) := by decide +kernel
theorem dX12_orders_17 : decode cX12_orders 17 = .ok (.ireturn, 1) := by decide +kernel
theorem dX12_orders_18 : decode cX12_orders 18 = .ok (.aload_n 0, 1) := by decide +kernel
theorem dX12_orders_19 : decode cX12_orders 19 = .ok (.iload_n 1, 1) := by decide +kernel
theorem dX12_orders_20 : decode cX12_orders 20 = .ok (.invokevirtual 457, 3) := by decide +kernel
theorem dX12_orders_23 : decode cX12_orders 23 = .ok (.aload_n 0, 1) := by decide +kernel
theorem dX12_orders_24 : decode cX12_orders 24 = .ok (.getfield 445, 3) := by decide +kernel
theorem dX12_orders_27 : decode cX12_orders 27 = .ok (.ireturn, 1) := by decide +kernel
theorem dX12_bestSwap_0 : decode cX12_bestSwap 0 = .ok (.aload_n 0, 1) := by decide +kernel
theorem dX12_bestSwap_1 : decode cX12_bestSwap 1 = .ok (.iconst 0, 1) := by decide +kernel
theorem dX12_bestSwap_2 : decode cX12_bestSwap 2 = .ok (.putfield 67, 3) := by decide +kernel
theorem dX12_bestSwap_5 : decode cX12_bestSwap 5 = .ok (.iload_n 1, 1) := by decide +kernel
theorem dX12_bestSwap_6 : decode cX12_bestSwap 6 = .ok (.invokestatic 422, 3) := by decide +kernel
theorem dX12_bestSwap_9 : decode cX12_bestSwap 9 = .ok (.ifCond .ne 9, 3) := by decide +kernel
theorem dX12_bestSwap_12 : decode cX12_bestSwap 12 = .ok (.aload_n 0, 1) := by decide +kernel
theorem dX12_bestSwap_13 : decode cX12_bestSwap 13 = .ok (.iconst 1, 1) := by decide +kernel
theorem dX12_bestSwap_14 : decode cX12_bestSwap 14 = .ok (.invokevirtual 234, 3) := by decide +kernel
theorem dX12_bestSwap_17 : decode cX12_bestSwap 17 = .ok (.ireturn, 1) := by decide +kernel
theorem dX12_bestSwap_18 : decode cX12_bestSwap 18 = .ok (.iconst (-1), 1) := by decide +kernel
theorem dX12_bestSwap_19 : decode cX12_bestSwap 19 = .ok (.istore_n 2, 1) := by decide +kernel
theorem dX12_bestSwap_20 : decode cX12_bestSwap 20 = .ok (.aload_n 0, 1) := by decide +kernel
theorem dX12_bestSwap_21 : decode cX12_bestSwap 21 = .ok (.iload_n 1, 1) := by decide +kernel
theorem dX12_bestSwap_22 : decode cX12_bestSwap 22 = .ok (.invokevirtual 425, 3) := by decide +kernel
theorem dX12_bestSwap_25 : decode cX12_bestSwap 25 = .ok (.istore_n 3, 1) := by decide +kernel
theorem dX12_bestSwap_26 : decode cX12_bestSwap 26 = .ok (.iconst 0, 1) := by decide +kernel
theorem dX12_bestSwap_27 : decode cX12_bestSwap 27 = .ok (.istore 4, 2) := by decide +kernel
theorem dX12_bestSwap_29 : decode cX12_bestSwap 29 = .ok (.iload 4, 2) := by decide +kernel
theorem dX12_bestSwap_31 : decode cX12_bestSwap 31 = .ok (.bipush 100, 2) := by decide +kernel
theorem dX12_bestSwap_33 : decode cX12_bestSwap 33 = .ok (.if_icmp .ge 84, 3) := by decide +kernel
theorem dX12_bestSwap_36 : decode cX12_bestSwap 36 = .ok (.iload 4, 2) := by decide +kernel
theorem dX12_bestSwap_38 : decode cX12_bestSwap 38 = .ok (.bipush 10, 2) := by decide +kernel
theorem dX12_bestSwap_40 : decode cX12_bestSwap 40 = .ok (.idiv, 1) := by decide +kernel
theorem dX12_bestSwap_41 : decode cX12_bestSwap 41 = .ok (.iload 4, 2) := by decide +kernel
theorem dX12_bestSwap_43 : decode cX12_bestSwap 43 = .ok (.bipush 10, 2) := by decide +kernel
theorem dX12_bestSwap_45 : decode cX12_bestSwap 45 = .ok (.irem, 1) := by decide +kernel
theorem dX12_bestSwap_46 : decode cX12_bestSwap 46 = .ok (.if_icmp .ge 65, 3) := by decide +kernel
theorem dX12_bestSwap_49 : decode cX12_bestSwap 49 = .ok (.aload_n 0, 1) := by decide +kernel
theorem dX12_bestSwap_50 : decode cX12_bestSwap 50 = .ok (.iload 4, 2) := by decide +kernel
theorem dX12_bestSwap_52 : decode cX12_bestSwap 52 = .ok (.bipush 10, 2) := by decide +kernel
theorem dX12_bestSwap_54 : decode cX12_bestSwap 54 = .ok (.idiv, 1) := by decide +kernel
theorem dX12_bestSwap_55 : decode cX12_bestSwap 55 = .ok (.i2l, 1) := by decide +kernel
theorem dX12_bestSwap_56 : decode cX12_bestSwap 56 = .ok (.iload 4, 2) := by decide +kernel
theorem dX12_bestSwap_58 : decode cX12_bestSwap 58 = .ok (.bipush 10, 2) := by decide +kernel
theorem dX12_bestSwap_60 : decode cX12_bestSwap 60 = .ok (.irem, 1) := by decide +kernel
theorem dX12_bestSwap_61 : decode cX12_bestSwap 61 = .ok (.i2l, 1) := by decide +kernel
theorem dX12_bestSwap_62 : decode cX12_bestSwap 62 = .ok (.invokevirtual 323, 3) := by decide +kernel
theorem dX12_bestSwap_65 : decode cX12_bestSwap 65 = .ok (.ifCond .eq 6, 3) := by decide +kernel
theorem dX12_bestSwap_68 : decode cX12_bestSwap 68 = .ok (.goto 43, 3) := by decide +kernel
theorem dX12_bestSwap_71 : decode cX12_bestSwap 71 = .ok (.aload_n 0, 1) := by decide +kernel
theorem dX12_bestSwap_72 : decode cX12_bestSwap 72 = .ok (.invokevirtual 380, 3) := by decide +kernel
theorem dX12_bestSwap_75 : decode cX12_bestSwap 75 = .ok (.aload_n 0, 1) := by decide +kernel
theorem dX12_bestSwap_76 : decode cX12_bestSwap 76 = .ok (.iload 4, 2) := by decide +kernel
theorem dX12_bestSwap_78 : decode cX12_bestSwap 78 = .ok (.bipush 10, 2) := by decide +kernel
theorem dX12_bestSwap_80 : decode cX12_bestSwap 80 = .ok (.idiv, 1) := by decide +kernel
theorem dX12_bestSwap_81 : decode cX12_bestSwap 81 = .ok (.iload 4, 2) := by decide +kernel
theorem dX12_bestSwap_83 : decode cX12_bestSwap 83 = .ok (.bipush 10, 2) := by decide +kernel
theorem dX12_bestSwap_85 : decode cX12_bestSwap 85 = .ok (.irem, 1) := by decide +kernel
theorem dX12_bestSwap_86 : decode cX12_bestSwap 86 = .ok (.invokevirtual 335, 3) := by decide +kernel
theorem dX12_bestSwap_89 : decode cX12_bestSwap 89 = .ok (.aload_n 0, 1) := by decide +kernel
theorem dX12_bestSwap_90 : decode cX12_bestSwap 90 = .ok (.iload_n 1, 1) := by decide +kernel
theorem dX12_bestSwap_91 : decode cX12_bestSwap 91 = .ok (.invokevirtual 419, 3) := by decide +kernel
theorem dX12_bestSwap_94 : decode cX12_bestSwap 94 = .ok (.istore 5, 2) := by decide +kernel
theorem dX12_bestSwap_96 : decode cX12_bestSwap 96 = .ok (.iload 5, 2) := by decide +kernel
theorem dX12_bestSwap_98 : decode cX12_bestSwap 98 = .ok (.iload_n 3, 1) := by decide +kernel
theorem dX12_bestSwap_99 : decode cX12_bestSwap 99 = .ok (.if_icmp .lt 6, 3) := by decide +kernel
theorem dX12_bestSwap_102 : decode cX12_bestSwap 102 = .ok (.goto 9, 3) := by decide +kernel
theorem dX12_bestSwap_105 : decode cX12_bestSwap 105 = .ok (.iload 4, 2) := by decide +kernel
theorem dX12_bestSwap_107 : decode cX12_bestSwap 107 = .ok (.istore_n 2, 1) := by decide +kernel
theorem dX12_bestSwap_108 : decode cX12_bestSwap 108 = .ok (.iload 5, 2) := by decide +kernel
theorem dX12_bestSwap_110 : decode cX12_bestSwap 110 = .ok (.istore_n 3, 1) := by decide +kernel
theorem dX12_bestSwap_111 : decode cX12_bestSwap 111 = .ok (.iinc 4 1, 3) := by decide +kernel
theorem dX12_bestSwap_114 : decode cX12_bestSwap 114 = .ok (.goto (-85), 3) := by decide +kernel
theorem dX12_bestSwap_117 : decode cX12_bestSwap 117 = .ok (.iload_n 2, 1) := by decide +kernel
theorem dX12_bestSwap_118 : decode cX12_bestSwap 118 = .ok (.ireturn, 1) := by decide +kernel
theorem dX12_burdenAt_0 : decode cX12_burdenAt 0 = .ok (.aload_n 0, 1) := by decide +kernel
theorem dX12_burdenAt_1 : decode cX12_burdenAt 1 = .ok (.invokevirtual 380, 3) := by decide +kernel
theorem dX12_burdenAt_4 : decode cX12_burdenAt 4 = .ok (.iload_n 1, 1) := by decide +kernel
theorem dX12_burdenAt_5 : decode cX12_burdenAt 5 = .ok (.iload_n 2, 1) := by decide +kernel
theorem dX12_burdenAt_6 : decode cX12_burdenAt 6 = .ok (.if_icmp .eq 9, 3) := by decide +kernel
theorem dX12_burdenAt_9 : decode cX12_burdenAt 9 = .ok (.aload_n 0, 1) := by decide +kernel
theorem dX12_burdenAt_10 : decode cX12_burdenAt 10 = .ok (.iload_n 1, 1) := by decide +kernel
theorem dX12_burdenAt_11 : decode cX12_burdenAt 11 = .ok (.iload_n 2, 1) := by decide +kernel
theorem dX12_burdenAt_12 : decode cX12_burdenAt 12 = .ok (.invokevirtual 335, 3) := by decide +kernel
theorem dX12_burdenAt_15 : decode cX12_burdenAt 15 = .ok (.aload_n 0, 1) := by decide +kernel
theorem dX12_burdenAt_16 : decode cX12_burdenAt 16 = .ok (.iload_n 2, 1) := by decide +kernel
theorem dX12_burdenAt_17 : decode cX12_burdenAt 17 = .ok (.iload_n 3, 1) := by decide +kernel
theorem dX12_burdenAt_18 : decode cX12_burdenAt 18 = .ok (.invokevirtual 428, 3) := by decide +kernel
theorem dX12_burdenAt_21 : decode cX12_burdenAt 21 = .ok (.lreturn, 1) := by decide +kernel
theorem dX12_wouldSwap_0 : decode cX12_wouldSwap 0 = .ok (.aload_n 0, 1) := by decide +kernel
theorem dX12_wouldSwap_1 : decode cX12_wouldSwap 1 = .ok (.iconst 0, 1) := by decide +kernel
theorem dX12_wouldSwap_2 : decode cX12_wouldSwap 2 = .ok (.putfield 67, 3) := by decide +kernel
theorem dX12_wouldSwap_5 : decode cX12_wouldSwap 5 = .ok (.iload_n 1, 1) := by decide +kernel
theorem dX12_wouldSwap_6 : decode cX12_wouldSwap 6 = .ok (.invokestatic 422, 3) := by decide +kernel
theorem dX12_wouldSwap_9 : decode cX12_wouldSwap 9 = .ok (.ifCond .ne 9, 3) := by decide +kernel
theorem dX12_wouldSwap_12 : decode cX12_wouldSwap 12 = .ok (.aload_n 0, 1) := by decide +kernel
theorem dX12_wouldSwap_13 : decode cX12_wouldSwap 13 = .ok (.iconst 1, 1) := by decide +kernel
theorem dX12_wouldSwap_14 : decode cX12_wouldSwap 14 = .ok (.invokevirtual 234, 3) := by decide +kernel
theorem dX12_wouldSwap_17 : decode cX12_wouldSwap 17 = .ok (.ireturn, 1) := by decide +kernel
theorem dX12_wouldSwap_18 : decode cX12_wouldSwap 18 = .ok (.iconst 0, 1) := by decide +kernel
theorem dX12_wouldSwap_19 : decode cX12_wouldSwap 19 = .ok (.istore_n 2, 1) := by decide +kernel
theorem dX12_wouldSwap_20 : decode cX12_wouldSwap 20 = .ok (.iload_n 2, 1) := by decide +kernel
theorem dX12_wouldSwap_21 : decode cX12_wouldSwap 21 = .ok (.bipush 100, 2) := by decide +kernel
theorem dX12_wouldSwap_23 : decode cX12_wouldSwap 23 = .ok (.if_icmp .ge 97, 3) := by decide +kernel
theorem dX12_wouldSwap_26 : decode cX12_wouldSwap 26 = .ok (.iload_n 2, 1) := by decide +kernel
theorem dX12_wouldSwap_27 : decode cX12_wouldSwap 27 = .ok (.bipush 10, 2) := by decide +kernel
theorem dX12_wouldSwap_29 : decode cX12_wouldSwap 29 = .ok (.idiv, 1) := by decide +kernel
theorem dX12_wouldSwap_30 : decode cX12_wouldSwap 30 = .ok (.istore_n 3, 1) := by decide +kernel
theorem dX12_wouldSwap_31 : decode cX12_wouldSwap 31 = .ok (.iload_n 2, 1) := by decide +kernel
theorem dX12_wouldSwap_32 : decode cX12_wouldSwap 32 = .ok (.bipush 10, 2) := by decide +kernel
theorem dX12_wouldSwap_34 : decode cX12_wouldSwap 34 = .ok (.irem, 1) := by decide +kernel
theorem dX12_wouldSwap_35 : decode cX12_wouldSwap 35 = .ok (.istore 4, 2) := by decide +kernel
theorem dX12_wouldSwap_37 : decode cX12_wouldSwap 37 = .ok (.iload_n 3, 1) := by decide +kernel
theorem dX12_wouldSwap_38 : decode cX12_wouldSwap 38 = .ok (.iload 4, 2) := by decide +kernel
theorem dX12_wouldSwap_40 : decode cX12_wouldSwap 40 = .ok (.if_icmp .ge 74, 3) := by decide +kernel
theorem dX12_wouldSwap_43 : decode cX12_wouldSwap 43 = .ok (.aload_n 0, 1) := by decide +kernel
theorem dX12_wouldSwap_44 : decode cX12_wouldSwap 44 = .ok (.iload_n 3, 1) := by decide +kernel
theorem dX12_wouldSwap_45 : decode cX12_wouldSwap 45 = .ok (.i2l, 1) := by decide +kernel
theorem dX12_wouldSwap_46 : decode cX12_wouldSwap 46 = .ok (.iload 4, 2) := by decide +kernel
theorem dX12_wouldSwap_48 : decode cX12_wouldSwap 48 = .ok (.i2l, 1) := by decide +kernel
theorem dX12_wouldSwap_49 : decode cX12_wouldSwap 49 = .ok (.invokevirtual 323, 3) := by decide +kernel
theorem dX12_wouldSwap_52 : decode cX12_wouldSwap 52 = .ok (.ifCond .ne 62, 3) := by decide +kernel
theorem dX12_wouldSwap_55 : decode cX12_wouldSwap 55 = .ok (.aload_n 0, 1) := by decide +kernel
theorem dX12_wouldSwap_56 : decode cX12_wouldSwap 56 = .ok (.iload_n 3, 1) := by decide +kernel
theorem dX12_wouldSwap_57 : decode cX12_wouldSwap 57 = .ok (.invokevirtual 291, 3) := by decide +kernel
theorem dX12_wouldSwap_60 : decode cX12_wouldSwap 60 = .ok (.ifCond .ne 54, 3) := by decide +kernel
theorem dX12_wouldSwap_63 : decode cX12_wouldSwap 63 = .ok (.aload_n 0, 1) := by decide +kernel
theorem dX12_wouldSwap_64 : decode cX12_wouldSwap 64 = .ok (.iload 4, 2) := by decide +kernel
theorem dX12_wouldSwap_66 : decode cX12_wouldSwap 66 = .ok (.invokevirtual 291, 3) := by decide +kernel
theorem dX12_wouldSwap_69 : decode cX12_wouldSwap 69 = .ok (.ifCond .eq 6, 3) := by decide +kernel
theorem dX12_wouldSwap_72 : decode cX12_wouldSwap 72 = .ok (.goto 42, 3) := by decide +kernel
theorem dX12_wouldSwap_75 : decode cX12_wouldSwap 75 = .ok (.aload_n 0, 1) := by decide +kernel
theorem dX12_wouldSwap_76 : decode cX12_wouldSwap 76 = .ok (.iload_n 3, 1) := by decide +kernel
theorem dX12_wouldSwap_77 : decode cX12_wouldSwap 77 = .ok (.iload 4, 2) := by decide +kernel
theorem dX12_wouldSwap_79 : decode cX12_wouldSwap 79 = .ok (.iload_n 1, 1) := by decide +kernel
theorem dX12_wouldSwap_80 : decode cX12_wouldSwap 80 = .ok (.invokevirtual 460, 3) := by decide +kernel
theorem dX12_wouldSwap_83 : decode cX12_wouldSwap 83 = .ok (.aload_n 0, 1) := by decide +kernel
theorem dX12_wouldSwap_84 : decode cX12_wouldSwap 84 = .ok (.iload_n 3, 1) := by decide +kernel
theorem dX12_wouldSwap_85 : decode cX12_wouldSwap 85 = .ok (.iload_n 1, 1) := by decide +kernel
theorem dX12_wouldSwap_86 : decode cX12_wouldSwap 86 = .ok (.invokevirtual 436, 3) := by decide +kernel
theorem dX12_wouldSwap_89 : decode cX12_wouldSwap 89 = .ok (.lcmp, 1) := by decide +kernel
theorem dX12_wouldSwap_90 : decode cX12_wouldSwap 90 = .ok (.ifCond .ge 24, 3) := by decide +kernel
theorem dX12_wouldSwap_93 : decode cX12_wouldSwap 93 = .ok (.aload_n 0, 1) := by decide +kernel
theorem dX12_wouldSwap_94 : decode cX12_wouldSwap 94 = .ok (.iload 4, 2) := by decide +kernel
theorem dX12_wouldSwap_96 : decode cX12_wouldSwap 96 = .ok (.iload_n 3, 1) := by decide +kernel
theorem dX12_wouldSwap_97 : decode cX12_wouldSwap 97 = .ok (.iload_n 1, 1) := by decide +kernel
theorem dX12_wouldSwap_98 : decode cX12_wouldSwap 98 = .ok (.invokevirtual 460, 3) := by decide +kernel
theorem dX12_wouldSwap_101 : decode cX12_wouldSwap 101 = .ok (.aload_n 0, 1) := by decide +kernel
theorem dX12_wouldSwap_102 : decode cX12_wouldSwap 102 = .ok (.iload 4, 2) := by decide +kernel
theorem dX12_wouldSwap_104 : decode cX12_wouldSwap 104 = .ok (.iload_n 1, 1) := by decide +kernel
theorem dX12_wouldSwap_105 : decode cX12_wouldSwap 105 = .ok (.invokevirtual 436, 3) := by decide +kernel
theorem dX12_wouldSwap_108 : decode cX12_wouldSwap 108 = .ok (.lcmp, 1) := by decide +kernel
theorem dX12_wouldSwap_109 : decode cX12_wouldSwap 109 = .ok (.ifCond .ge 5, 3) := by decide +kernel
theorem dX12_wouldSwap_112 : decode cX12_wouldSwap 112 = .ok (.iload_n 2, 1) := by decide +kernel
theorem dX12_wouldSwap_113 : decode cX12_wouldSwap 113 = .ok (.ireturn, 1) := by decide +kernel
theorem dX12_wouldSwap_114 : decode cX12_wouldSwap 114 = .ok (.iinc 2 1, 3) := by decide +kernel
theorem dX12_wouldSwap_117 : decode cX12_wouldSwap 117 = .ok (.goto (-97), 3) := by decide +kernel
theorem dX12_wouldSwap_120 : decode cX12_wouldSwap 120 = .ok (.iconst (-1), 1) := by decide +kernel
theorem dX12_wouldSwap_121 : decode cX12_wouldSwap 121 = .ok (.ireturn, 1) := by decide +kernel
theorem dX12_bestHouse_0 : decode cX12_bestHouse 0 = .ok (.aload_n 0, 1) := by decide +kernel
theorem dX12_bestHouse_1 : decode cX12_bestHouse 1 = .ok (.iload_n 1, 1) := by decide +kernel
theorem dX12_bestHouse_2 : decode cX12_bestHouse 2 = .ok (.iload_n 2, 1) := by decide +kernel
theorem dX12_bestHouse_3 : decode cX12_bestHouse 3 = .ok (.invokevirtual 432, 3) := by decide +kernel
theorem dX12_bestHouse_6 : decode cX12_bestHouse 6 = .ok (.ifCond .eq 5, 3) := by decide +kernel
theorem dX12_bestHouse_9 : decode cX12_bestHouse 9 = .ok (.iconst 0, 1) := by decide +kernel
theorem dX12_bestHouse_10 : decode cX12_bestHouse 10 = .ok (.ireturn, 1) := by decide +kernel
theorem dX12_bestHouse_11 : decode cX12_bestHouse 11 = .ok (.iconst 0, 1) := by decide +kernel
theorem dX12_bestHouse_12 : decode cX12_bestHouse 12 = .ok (.istore_n 3, 1) := by decide +kernel
theorem dX12_bestHouse_13 : decode cX12_bestHouse 13 = .ok (.aload_n 0, 1) := by decide +kernel
theorem dX12_bestHouse_14 : decode cX12_bestHouse 14 = .ok (.iload_n 1, 1) := by decide +kernel
theorem dX12_bestHouse_15 : decode cX12_bestHouse 15 = .ok (.iconst 0, 1) := by decide +kernel
theorem dX12_bestHouse_16 : decode cX12_bestHouse 16 = .ok (.iload_n 2, 1) := by decide +kernel
theorem dX12_bestHouse_17 : decode cX12_bestHouse 17 = .ok (.invokevirtual 460, 3) := by decide +kernel
theorem dX12_bestHouse_20 : decode cX12_bestHouse 20 = .ok (.lstore 4, 2) := by decide +kernel
theorem dX12_bestHouse_22 : decode cX12_bestHouse 22 = .ok (.iconst 1, 1) := by decide +kernel
theorem dX12_bestHouse_23 : decode cX12_bestHouse 23 = .ok (.istore 6, 2) := by decide +kernel
theorem dX12_bestHouse_25 : decode cX12_bestHouse 25 = .ok (.iload 6, 2) := by decide +kernel
theorem dX12_bestHouse_27 : decode cX12_bestHouse 27 = .ok (.aload_n 0, 1) := by decide +kernel
theorem dX12_bestHouse_28 : decode cX12_bestHouse 28 = .ok (.invokevirtual 249, 3) := by decide +kernel
theorem dX12_bestHouse_31 : decode cX12_bestHouse 31 = .ok (.if_icmp .ge 37, 3) := by decide +kernel
theorem dX12_bestHouse_34 : decode cX12_bestHouse 34 = .ok (.aload_n 0, 1) := by decide +kernel
theorem dX12_bestHouse_35 : decode cX12_bestHouse 35 = .ok (.iload_n 1, 1) := by decide +kernel
theorem dX12_bestHouse_36 : decode cX12_bestHouse 36 = .ok (.iload 6, 2) := by decide +kernel
theorem dX12_bestHouse_38 : decode cX12_bestHouse 38 = .ok (.iload_n 2, 1) := by decide +kernel
theorem dX12_bestHouse_39 : decode cX12_bestHouse 39 = .ok (.invokevirtual 460, 3) := by decide +kernel
theorem dX12_bestHouse_42 : decode cX12_bestHouse 42 = .ok (.lstore 7, 2) := by decide +kernel
theorem dX12_bestHouse_44 : decode cX12_bestHouse 44 = .ok (.lload 7, 2) := by decide +kernel
theorem dX12_bestHouse_46 : decode cX12_bestHouse 46 = .ok (.lload 4, 2) := by decide +kernel
theorem dX12_bestHouse_48 : decode cX12_bestHouse 48 = .ok (.lcmp, 1) := by decide +kernel
theorem dX12_bestHouse_49 : decode cX12_bestHouse 49 = .ok (.ifCond .lt 6, 3) := by decide +kernel
theorem dX12_bestHouse_52 : decode cX12_bestHouse 52 = .ok (.goto 10, 3) := by decide +kernel
theorem dX12_bestHouse_55 : decode cX12_bestHouse 55 = .ok (.iload 6, 2) := by decide +kernel
theorem dX12_bestHouse_57 : decode cX12_bestHouse 57 = .ok (.istore_n 3, 1) := by decide +kernel
theorem dX12_bestHouse_58 : decode cX12_bestHouse 58 = .ok (.lload 7, 2) := by decide +kernel
theorem dX12_bestHouse_60 : decode cX12_bestHouse 60 = .ok (.lstore 4, 2) := by decide +kernel
theorem dX12_bestHouse_62 : decode cX12_bestHouse 62 = .ok (.iinc 6 1, 3) := by decide +kernel
theorem dX12_bestHouse_65 : decode cX12_bestHouse 65 = .ok (.goto (-40), 3) := by decide +kernel
theorem dX12_bestHouse_68 : decode cX12_bestHouse 68 = .ok (.iload_n 3, 1) := by decide +kernel
theorem dX12_bestHouse_69 : decode cX12_bestHouse 69 = .ok (.ireturn, 1) := by decide +kernel
theorem dX12_isLostFromHere_0 : decode cX12_isLostFromHere 0 = .ok (.aload_n 0, 1) := by decide +kernel
theorem dX12_isLostFromHere_1 : decode cX12_isLostFromHere 1 = .ok (.iload_n 2, 1) := by decide +kernel
theorem dX12_isLostFromHere_2 : decode cX12_isLostFromHere 2 = .ok (.invokevirtual 419, 3) := by decide +kernel
theorem dX12_isLostFromHere_5 : decode cX12_isLostFromHere 5 = .ok (.pop, 1) := by decide +kernel
theorem dX12_isLostFromHere_6 : decode cX12_isLostFromHere 6 = .ok (.aload_n 0, 1) := by decide +kernel
theorem dX12_isLostFromHere_7 : decode cX12_isLostFromHere 7 = .ok (.getfield 413, 3) := by decide +kernel
theorem dX12_isLostFromHere_10 : decode cX12_isLostFromHere 10 = .ok (.iload_n 1, 1) := by decide +kernel
theorem dX12_isLostFromHere_11 : decode cX12_isLostFromHere 11 = .ok (.invokestatic 448, 3) := by decide +kernel
theorem dX12_isLostFromHere_14 : decode cX12_isLostFromHere 14 = .ok (.ireturn, 1) := by decide +kernel
theorem dX12_hedges_0 : decode cX12_hedges 0 = .ok (.aload_n 0, 1) := by decide +kernel
theorem dX12_hedges_1 : decode cX12_hedges 1 = .ok (.aload_n 0, 1) := by decide +kernel
theorem dX12_hedges_2 : decode cX12_hedges 2 = .ok (.iload_n 1, 1) := by decide +kernel
theorem dX12_hedges_3 : decode cX12_hedges 3 = .ok (.i2l, 1) := by decide +kernel
theorem dX12_hedges_4 : decode cX12_hedges 4 = .ok (.invokevirtual 313, 3) := by decide +kernel
theorem dX12_hedges_7 : decode cX12_hedges 7 = .ok (.ifCond .ne 7, 3) := by decide +kernel
theorem dX12_hedges_10 : decode cX12_hedges 10 = .ok (.iconst 1, 1) := by decide +kernel
theorem dX12_hedges_11 : decode cX12_hedges 11 = .ok (.goto 37, 3) := by decide +kernel
theorem dX12_hedges_14 : decode cX12_hedges 14 = .ok (.iload_n 2, 1) := by decide +kernel
theorem dX12_hedges_15 : decode cX12_hedges 15 = .ok (.invokestatic 422, 3) := by decide +kernel
theorem dX12_hedges_18 : decode cX12_hedges 18 = .ok (.ifCond .eq 13, 3) := by decide +kernel
theorem dX12_hedges_21 : decode cX12_hedges 21 = .ok (.iload_n 3, 1) := by decide +kernel
theorem dX12_hedges_22 : decode cX12_hedges 22 = .ok (.i2l, 1) := by decide +kernel
theorem dX12_hedges_23 : decode cX12_hedges 23 = .ok (.lconst 0, 1) := by decide +kernel
theorem dX12_hedges_24 : decode cX12_hedges 24 = .ok (.lconst 1, 1) := by decide +kernel
theorem dX12_hedges_25 : decode cX12_hedges 25 = .ok (.invokestatic 128, 3) := by decide +kernel
theorem dX12_hedges_28 : decode cX12_hedges 28 = .ok (.ifCond .ne 7, 3) := by decide +kernel
theorem dX12_hedges_31 : decode cX12_hedges 31 = .ok (.iconst 2, 1) := by decide +kernel
theorem dX12_hedges_32 : decode cX12_hedges 32 = .ok (.goto 16, 3) := by decide +kernel
theorem dX12_hedges_35 : decode cX12_hedges 35 = .ok (.aload_n 0, 1) := by decide +kernel
theorem dX12_hedges_36 : decode cX12_hedges 36 = .ok (.iload_n 1, 1) := by decide +kernel
theorem dX12_hedges_37 : decode cX12_hedges 37 = .ok (.invokevirtual 291, 3) := by decide +kernel
theorem dX12_hedges_40 : decode cX12_hedges 40 = .ok (.ifCond .eq 7, 3) := by decide +kernel
theorem dX12_hedges_43 : decode cX12_hedges 43 = .ok (.iconst 3, 1) := by decide +kernel
theorem dX12_hedges_44 : decode cX12_hedges 44 = .ok (.goto 4, 3) := by decide +kernel
theorem dX12_hedges_47 : decode cX12_hedges 47 = .ok (.iconst 0, 1) := by decide +kernel
theorem dX12_hedges_48 : decode cX12_hedges 48 = .ok (.putfield 67, 3) := by decide +kernel
theorem dX12_hedges_51 : decode cX12_hedges 51 = .ok (.aload_n 0, 1) := by decide +kernel
theorem dX12_hedges_52 : decode cX12_hedges 52 = .ok (.getfield 67, 3) := by decide +kernel
theorem dX12_hedges_55 : decode cX12_hedges 55 = .ok (.ifCond .le 5, 3) := by decide +kernel
theorem dX12_hedges_58 : decode cX12_hedges 58 = .ok (.iconst 0, 1) := by decide +kernel
theorem dX12_hedges_59 : decode cX12_hedges 59 = .ok (.ireturn, 1) := by decide +kernel
theorem dX12_hedges_60 : decode cX12_hedges 60 = .ok (.iconst (-1), 1) := by decide +kernel
theorem dX12_hedges_61 : decode cX12_hedges 61 = .ok (.istore 4, 2) := by decide +kernel
theorem dX12_hedges_63 : decode cX12_hedges 63 = .ok (.iconst 0, 1) := by decide +kernel
theorem dX12_hedges_64 : decode cX12_hedges 64 = .ok (.istore 5, 2) := by decide +kernel
theorem dX12_hedges_66 : decode cX12_hedges 66 = .ok (.iload 5, 2) := by decide +kernel
theorem dX12_hedges_68 : decode cX12_hedges 68 = .ok (.iconst 1, 1) := by decide +kernel
theorem dX12_hedges_69 : decode cX12_hedges 69 = .ok (.aload_n 0, 1) := by decide +kernel
theorem dX12_hedges_70 : decode cX12_hedges 70 = .ok (.invokevirtual 249, 3) := by decide +kernel
theorem dX12_hedges_73 : decode cX12_hedges 73 = .ok (.ishl, 1) := by decide +kernel
theorem dX12_hedges_74 : decode cX12_hedges 74 = .ok (.if_icmp .ge 87, 3) := by decide +kernel
theorem dX12_hedges_77 : decode cX12_hedges 77 = .ok (.iload 4, 2) := by decide +kernel
theorem dX12_hedges_79 : decode cX12_hedges 79 = .ok (.iconst (-1), 1) := by decide +kernel
theorem dX12_hedges_80 : decode cX12_hedges 80 = .ok (.if_icmp .eq 19, 3) := by decide +kernel
theorem dX12_hedges_83 : decode cX12_hedges 83 = .ok (.iload 5, 2) := by decide +kernel
theorem dX12_hedges_85 : decode cX12_hedges 85 = .ok (.invokestatic 416, 3) := by decide +kernel
theorem dX12_hedges_88 : decode cX12_hedges 88 = .ok (.iload 4, 2) := by decide +kernel
theorem dX12_hedges_90 : decode cX12_hedges 90 = .ok (.invokestatic 416, 3) := by decide +kernel
theorem dX12_hedges_93 : decode cX12_hedges 93 = .ok (.if_icmp .lt 6, 3) := by decide +kernel
theorem dX12_hedges_96 : decode cX12_hedges 96 = .ok (.goto 59, 3) := by decide +kernel
theorem dX12_hedges_99 : decode cX12_hedges 99 = .ok (.aload_n 0, 1) := by decide +kernel
theorem dX12_hedges_100 : decode cX12_hedges 100 = .ok (.invokevirtual 380, 3) := by decide +kernel
theorem dX12_hedges_103 : decode cX12_hedges 103 = .ok (.iconst 0, 1) := by decide +kernel
theorem dX12_hedges_104 : decode cX12_hedges 104 = .ok (.istore 6, 2) := by decide +kernel
theorem dX12_hedges_106 : decode cX12_hedges 106 = .ok (.iload 6, 2) := by decide +kernel
theorem dX12_hedges_108 : decode cX12_hedges 108 = .ok (.aload_n 0, 1) := by decide +kernel
theorem dX12_hedges_109 : decode cX12_hedges 109 = .ok (.invokevirtual 249, 3) := by decide +kernel
theorem dX12_hedges_112 : decode cX12_hedges 112 = .ok (.if_icmp .ge 30, 3) := by decide +kernel
theorem dX12_hedges_115 : decode cX12_hedges 115 = .ok (.iload 5, 2) := by decide +kernel
theorem dX12_hedges_117 : decode cX12_hedges 117 = .ok (.iload 6, 2) := by decide +kernel
theorem dX12_hedges_119 : decode cX12_hedges 119 = .ok (.invokestatic 448, 3) := by decide +kernel
theorem dX12_hedges_122 : decode cX12_hedges 122 = .ok (.ifCond .eq 14, 3) := by decide +kernel
theorem dX12_hedges_125 : decode cX12_hedges 125 = .ok (.aload_n 0, 1) := by decide +kernel
theorem dX12_hedges_126 : decode cX12_hedges 126 = .ok (.getfield 9, 3) := by decide +kernel
theorem dX12_hedges_129 : decode cX12_hedges 129 = .ok (.bipush 43, 2) := by decide +kernel
theorem dX12_hedges_131 : decode cX12_hedges 131 = .ok (.iload 6, 2) := by decide +kernel
theorem dX12_hedges_133 : decode cX12_hedges 133 = .ok (.iadd, 1) := by decide +kernel
theorem dX12_hedges_134 : decode cX12_hedges 134 = .ok (.iload_n 2, 1) := by decide +kernel
theorem dX12_hedges_135 : decode cX12_hedges 135 = .ok (.iastore, 1) := by decide +kernel
theorem dX12_hedges_136 : decode cX12_hedges 136 = .ok (.iinc 6 1, 3) := by decide +kernel
theorem dX12_hedges_139 : decode cX12_hedges 139 = .ok (.goto (-33), 3) := by decide +kernel
theorem dX12_hedges_142 : decode cX12_hedges 142 = .ok (.aload_n 0, 1) := by decide +kernel
theorem dX12_hedges_143 : decode cX12_hedges 143 = .ok (.iload_n 1, 1) := by decide +kernel
theorem dX12_hedges_144 : decode cX12_hedges 144 = .ok (.iload_n 2, 1) := by decide +kernel
theorem dX12_hedges_145 : decode cX12_hedges 145 = .ok (.invokevirtual 464, 3) := by decide +kernel
theorem dX12_hedges_148 : decode cX12_hedges 148 = .ok (.ifCond .ne 7, 3) := by decide +kernel
theorem dX12_hedges_151 : decode cX12_hedges 151 = .ok (.iload 5, 2) := by decide +kernel
theorem dX12_hedges_153 : decode cX12_hedges 153 = .ok (.istore 4, 2) := by decide +kernel
theorem dX12_hedges_155 : decode cX12_hedges 155 = .ok (.iinc 5 1, 3) := by decide +kernel
theorem dX12_hedges_158 : decode cX12_hedges 158 = .ok (.goto (-92), 3) := by decide +kernel
theorem dX12_hedges_161 : decode cX12_hedges 161 = .ok (.iload 4, 2) := by decide +kernel
theorem dX12_hedges_163 : decode cX12_hedges 163 = .ok (.iconst (-1), 1) := by decide +kernel
theorem dX12_hedges_164 : decode cX12_hedges 164 = .ok (.if_icmp .eq 8, 3) := by decide +kernel
theorem dX12_hedges_167 : decode cX12_hedges 167 = .ok (.iload_n 3, 1) := by decide +kernel
theorem dX12_hedges_168 : decode cX12_hedges 168 = .ok (.iconst 1, 1) := by decide +kernel
theorem dX12_hedges_169 : decode cX12_hedges 169 = .ok (.if_icmp .ne 8, 3) := by decide +kernel
theorem dX12_hedges_172 : decode cX12_hedges 172 = .ok (.iload 4, 2) := by decide +kernel
theorem dX12_hedges_174 : decode cX12_hedges 174 = .ok (.goto 8, 3) := by decide +kernel
theorem dX12_hedges_177 : decode cX12_hedges 177 = .ok (.iload 4, 2) := by decide +kernel
theorem dX12_hedges_179 : decode cX12_hedges 179 = .ok (.invokestatic 416, 3) := by decide +kernel
theorem dX12_hedges_182 : decode cX12_hedges 182 = .ok (.ireturn, 1) := by decide +kernel
theorem dX12_bestHedge_0 : decode cX12_bestHedge 0 = .ok (.aload_n 0, 1) := by decide +kernel
theorem dX12_bestHedge_1 : decode cX12_bestHedge 1 = .ok (.iconst 0, 1) := by decide +kernel
theorem dX12_bestHedge_2 : decode cX12_bestHedge 2 = .ok (.putfield 67, 3) := by decide +kernel
theorem dX12_bestHedge_5 : decode cX12_bestHedge 5 = .ok (.iload_n 1, 1) := by decide +kernel
theorem dX12_bestHedge_6 : decode cX12_bestHedge 6 = .ok (.invokestatic 422, 3) := by decide +kernel
theorem dX12_bestHedge_9 : decode cX12_bestHedge 9 = .ok (.ifCond .ne 9, 3) := by decide +kernel
theorem dX12_bestHedge_12 : decode cX12_bestHedge 12 = .ok (.aload_n 0, 1) := by decide +kernel
theorem dX12_bestHedge_13 : decode cX12_bestHedge 13 = .ok (.iconst 1, 1) := by decide +kernel
theorem dX12_bestHedge_14 : decode cX12_bestHedge 14 = .ok (.invokevirtual 234, 3) := by decide +kernel
theorem dX12_bestHedge_17 : decode cX12_bestHedge 17 = .ok (.ireturn, 1) := by decide +kernel
theorem dX12_bestHedge_18 : decode cX12_bestHedge 18 = .ok (.iconst (-1), 1) := by decide +kernel
theorem dX12_bestHedge_19 : decode cX12_bestHedge 19 = .ok (.istore_n 2, 1) := by decide +kernel
theorem dX12_bestHedge_20 : decode cX12_bestHedge 20 = .ok (.aload_n 0, 1) := by decide +kernel
theorem dX12_bestHedge_21 : decode cX12_bestHedge 21 = .ok (.iload_n 1, 1) := by decide +kernel
theorem dX12_bestHedge_22 : decode cX12_bestHedge 22 = .ok (.invokevirtual 425, 3) := by decide +kernel
theorem dX12_bestHedge_25 : decode cX12_bestHedge 25 = .ok (.istore_n 3, 1) := by decide +kernel
theorem dX12_bestHedge_26 : decode cX12_bestHedge 26 = .ok (.iconst 0, 1) := by decide +kernel
theorem dX12_bestHedge_27 : decode cX12_bestHedge 27 = .ok (.istore 4, 2) := by decide +kernel
theorem dX12_bestHedge_29 : decode cX12_bestHedge 29 = .ok (.iload 4, 2) := by decide +kernel
theorem dX12_bestHedge_31 : decode cX12_bestHedge 31 = .ok (.aload_n 0, 1) := by decide +kernel
theorem dX12_bestHedge_32 : decode cX12_bestHedge 32 = .ok (.invokevirtual 249, 3) := by decide +kernel
theorem dX12_bestHedge_35 : decode cX12_bestHedge 35 = .ok (.if_icmp .ge 46, 3) := by decide +kernel
theorem dX12_bestHedge_38 : decode cX12_bestHedge 38 = .ok (.aload_n 0, 1) := by decide +kernel
theorem dX12_bestHedge_39 : decode cX12_bestHedge 39 = .ok (.invokevirtual 380, 3) := by decide +kernel
theorem dX12_bestHedge_42 : decode cX12_bestHedge 42 = .ok (.aload_n 0, 1) := by decide +kernel
theorem dX12_bestHedge_43 : decode cX12_bestHedge 43 = .ok (.getfield 9, 3) := by decide +kernel
theorem dX12_bestHedge_46 : decode cX12_bestHedge 46 = .ok (.bipush 43, 2) := by decide +kernel
theorem dX12_bestHedge_48 : decode cX12_bestHedge 48 = .ok (.iload 4, 2) := by decide +kernel
theorem dX12_bestHedge_50 : decode cX12_bestHedge 50 = .ok (.iadd, 1) := by decide +kernel
theorem dX12_bestHedge_51 : decode cX12_bestHedge 51 = .ok (.iload_n 1, 1) := by decide +kernel
theorem dX12_bestHedge_52 : decode cX12_bestHedge 52 = .ok (.iastore, 1) := by decide +kernel
theorem dX12_bestHedge_53 : decode cX12_bestHedge 53 = .ok (.aload_n 0, 1) := by decide +kernel
theorem dX12_bestHedge_54 : decode cX12_bestHedge 54 = .ok (.iload_n 1, 1) := by decide +kernel
theorem dX12_bestHedge_55 : decode cX12_bestHedge 55 = .ok (.invokevirtual 419, 3) := by decide +kernel
theorem dX12_bestHedge_58 : decode cX12_bestHedge 58 = .ok (.istore 5, 2) := by decide +kernel
theorem dX12_bestHedge_60 : decode cX12_bestHedge 60 = .ok (.iload 5, 2) := by decide +kernel
theorem dX12_bestHedge_62 : decode cX12_bestHedge 62 = .ok (.iload_n 3, 1) := by decide +kernel
theorem dX12_bestHedge_63 : decode cX12_bestHedge 63 = .ok (.if_icmp .lt 6, 3) := by decide +kernel
theorem dX12_bestHedge_66 : decode cX12_bestHedge 66 = .ok (.goto 9, 3) := by decide +kernel
theorem dX12_bestHedge_69 : decode cX12_bestHedge 69 = .ok (.iload 4, 2) := by decide +kernel
theorem dX12_bestHedge_71 : decode cX12_bestHedge 71 = .ok (.istore_n 2, 1) := by decide +kernel
theorem dX12_bestHedge_72 : decode cX12_bestHedge 72 = .ok (.iload 5, 2) := by decide +kernel
theorem dX12_bestHedge_74 : decode cX12_bestHedge 74 = .ok (.istore_n 3, 1) := by decide +kernel
theorem dX12_bestHedge_75 : decode cX12_bestHedge 75 = .ok (.iinc 4 1, 3) := by decide +kernel
theorem dX12_bestHedge_78 : decode cX12_bestHedge 78 = .ok (.goto (-49), 3) := by decide +kernel
theorem dX12_bestHedge_81 : decode cX12_bestHedge 81 = .ok (.iload_n 2, 1) := by decide +kernel
theorem dX12_bestHedge_82 : decode cX12_bestHedge 82 = .ok (.ireturn, 1) := by decide +kernel
theorem dX12_isLivingOut_0 : decode cX12_isLivingOut 0 = .ok (.aload_n 0, 1) := by decide +kernel
theorem dX12_isLivingOut_1 : decode cX12_isLivingOut 1 = .ok (.aload_n 0, 1) := by decide +kernel
theorem dX12_isLivingOut_2 : decode cX12_isLivingOut 2 = .ok (.iload_n 1, 1) := by decide +kernel
theorem dX12_isLivingOut_3 : decode cX12_isLivingOut 3 = .ok (.i2l, 1) := by decide +kernel
theorem dX12_isLivingOut_4 : decode cX12_isLivingOut 4 = .ok (.invokevirtual 313, 3) := by decide +kernel
theorem dX12_isLivingOut_7 : decode cX12_isLivingOut 7 = .ok (.ifCond .ne 7, 3) := by decide +kernel
theorem dX12_isLivingOut_10 : decode cX12_isLivingOut 10 = .ok (.iconst 1, 1) := by decide +kernel
theorem dX12_isLivingOut_11 : decode cX12_isLivingOut 11 = .ok (.goto 27, 3) := by decide +kernel
theorem dX12_isLivingOut_14 : decode cX12_isLivingOut 14 = .ok (.iload_n 2, 1) := by decide +kernel
theorem dX12_isLivingOut_15 : decode cX12_isLivingOut 15 = .ok (.invokestatic 422, 3) := by decide +kernel
theorem dX12_isLivingOut_18 : decode cX12_isLivingOut 18 = .ok (.ifCond .ne 7, 3) := by decide +kernel
theorem dX12_isLivingOut_21 : decode cX12_isLivingOut 21 = .ok (.iconst 2, 1) := by decide +kernel
theorem dX12_isLivingOut_22 : decode cX12_isLivingOut 22 = .ok (.goto 16, 3) := by decide +kernel
theorem dX12_isLivingOut_25 : decode cX12_isLivingOut 25 = .ok (.aload_n 0, 1) := by decide +kernel
theorem dX12_isLivingOut_26 : decode cX12_isLivingOut 26 = .ok (.iload_n 1, 1) := by decide +kernel
theorem dX12_isLivingOut_27 : decode cX12_isLivingOut 27 = .ok (.invokevirtual 291, 3) := by decide +kernel
theorem dX12_isLivingOut_30 : decode cX12_isLivingOut 30 = .ok (.ifCond .eq 7, 3) := by decide +kernel
theorem dX12_isLivingOut_33 : decode cX12_isLivingOut 33 = .ok (.iconst 3, 1) := by decide +kernel
theorem dX12_isLivingOut_34 : decode cX12_isLivingOut 34 = .ok (.goto 4, 3) := by decide +kernel
theorem dX12_isLivingOut_37 : decode cX12_isLivingOut 37 = .ok (.iconst 0, 1) := by decide +kernel
theorem dX12_isLivingOut_38 : decode cX12_isLivingOut 38 = .ok (.putfield 67, 3) := by decide +kernel
theorem dX12_isLivingOut_41 : decode cX12_isLivingOut 41 = .ok (.aload_n 0, 1) := by decide +kernel
theorem dX12_isLivingOut_42 : decode cX12_isLivingOut 42 = .ok (.getfield 67, 3) := by decide +kernel
theorem dX12_isLivingOut_45 : decode cX12_isLivingOut 45 = .ok (.ifCond .le 7, 3) := by decide +kernel
theorem dX12_isLivingOut_48 : decode cX12_isLivingOut 48 = .ok (.iconst 1, 1) := by decide +kernel
theorem dX12_isLivingOut_49 : decode cX12_isLivingOut 49 = .ok (.goto 4, 3) := by decide +kernel
theorem dX12_isLivingOut_52 : decode cX12_isLivingOut 52 = .ok (.iconst 0, 1) := by decide +kernel
theorem dX12_isLivingOut_53 : decode cX12_isLivingOut 53 = .ok (.ireturn, 1) := by decide +kernel
theorem dX12_saves_0 : decode cX12_saves 0 = .ok (.aload_n 0, 1) := by decide +kernel
theorem dX12_saves_1 : decode cX12_saves 1 = .ok (.iload_n 1, 1) := by decide +kernel
theorem dX12_saves_2 : decode cX12_saves 2 = .ok (.iload_n 2, 1) := by decide +kernel
theorem dX12_saves_3 : decode cX12_saves 3 = .ok (.invokevirtual 467, 3) := by decide +kernel
theorem dX12_saves_6 : decode cX12_saves 6 = .ok (.ifCond .eq 5, 3) := by decide +kernel
theorem dX12_saves_9 : decode cX12_saves 9 = .ok (.iconst 0, 1) := by decide +kernel
theorem dX12_saves_10 : decode cX12_saves 10 = .ok (.ireturn, 1) := by decide +kernel
theorem dX12_saves_11 : decode cX12_saves 11 = .ok (.iconst 0, 1) := by decide +kernel
theorem dX12_saves_12 : decode cX12_saves 12 = .ok (.istore_n 3, 1) := by decide +kernel
theorem dX12_saves_13 : decode cX12_saves 13 = .ok (.iload_n 3, 1) := by decide +kernel
theorem dX12_saves_14 : decode cX12_saves 14 = .ok (.sipush 999, 3) := by decide +kernel
theorem dX12_saves_17 : decode cX12_saves 17 = .ok (.if_icmp .gt 47, 3) := by decide +kernel
theorem dX12_saves_20 : decode cX12_saves 20 = .ok (.aload_n 0, 1) := by decide +kernel
theorem dX12_saves_21 : decode cX12_saves 21 = .ok (.invokevirtual 380, 3) := by decide +kernel
theorem dX12_saves_24 : decode cX12_saves 24 = .ok (.aload_n 0, 1) := by decide +kernel
theorem dX12_saves_25 : decode cX12_saves 25 = .ok (.getfield 9, 3) := by decide +kernel
theorem dX12_saves_28 : decode cX12_saves 28 = .ok (.bipush 22, 2) := by decide +kernel
theorem dX12_saves_30 : decode cX12_saves 30 = .ok (.iload_n 1, 1) := by decide +kernel
theorem dX12_saves_31 : decode cX12_saves 31 = .ok (.iadd, 1) := by decide +kernel
theorem dX12_saves_32 : decode cX12_saves 32 = .ok (.aload_n 0, 1) := by decide +kernel
theorem dX12_saves_33 : decode cX12_saves 33 = .ok (.getfield 9, 3) := by decide +kernel
theorem dX12_saves_36 : decode cX12_saves 36 = .ok (.bipush 22, 2) := by decide +kernel
theorem dX12_saves_38 : decode cX12_saves 38 = .ok (.iload_n 1, 1) := by decide +kernel
theorem dX12_saves_39 : decode cX12_saves 39 = .ok (.iadd, 1) := by decide +kernel
theorem dX12_saves_40 : decode cX12_saves 40 = .ok (.iaload, 1) := by decide +kernel
theorem dX12_saves_41 : decode cX12_saves 41 = .ok (.iload_n 3, 1) := by decide +kernel
theorem dX12_saves_42 : decode cX12_saves 42 = .ok (.iadd, 1) := by decide +kernel
theorem dX12_saves_43 : decode cX12_saves 43 = .ok (.invokestatic 279, 3) := by decide +kernel
theorem dX12_saves_46 : decode cX12_saves 46 = .ok (.iastore, 1) := by decide +kernel
theorem dX12_saves_47 : decode cX12_saves 47 = .ok (.aload_n 0, 1) := by decide +kernel
theorem dX12_saves_48 : decode cX12_saves 48 = .ok (.iload_n 1, 1) := by decide +kernel
theorem dX12_saves_49 : decode cX12_saves 49 = .ok (.iload_n 2, 1) := by decide +kernel
theorem dX12_saves_50 : decode cX12_saves 50 = .ok (.invokevirtual 464, 3) := by decide +kernel
theorem dX12_saves_53 : decode cX12_saves 53 = .ok (.ifCond .ne 5, 3) := by decide +kernel
theorem dX12_saves_56 : decode cX12_saves 56 = .ok (.iload_n 3, 1) := by decide +kernel
theorem dX12_saves_57 : decode cX12_saves 57 = .ok (.ireturn, 1) := by decide +kernel
theorem dX12_saves_58 : decode cX12_saves 58 = .ok (.iinc 3 1, 3) := by decide +kernel
theorem dX12_saves_61 : decode cX12_saves 61 = .ok (.goto (-48), 3) := by decide +kernel
theorem dX12_saves_64 : decode cX12_saves 64 = .ok (.iconst (-1), 1) := by decide +kernel
theorem dX12_saves_65 : decode cX12_saves 65 = .ok (.ireturn, 1) := by decide +kernel
theorem dX12_leastLimit_0 : decode cX12_leastLimit 0 = .ok (.aload_n 0, 1) := by decide +kernel
theorem dX12_leastLimit_1 : decode cX12_leastLimit 1 = .ok (.iconst 0, 1) := by decide +kernel
theorem dX12_leastLimit_2 : decode cX12_leastLimit 2 = .ok (.putfield 67, 3) := by decide +kernel
theorem dX12_leastLimit_5 : decode cX12_leastLimit 5 = .ok (.iload_n 1, 1) := by decide +kernel
theorem dX12_leastLimit_6 : decode cX12_leastLimit 6 = .ok (.invokestatic 422, 3) := by decide +kernel
theorem dX12_leastLimit_9 : decode cX12_leastLimit 9 = .ok (.ifCond .ne 9, 3) := by decide +kernel
theorem dX12_leastLimit_12 : decode cX12_leastLimit 12 = .ok (.aload_n 0, 1) := by decide +kernel
theorem dX12_leastLimit_13 : decode cX12_leastLimit 13 = .ok (.iconst 1, 1) := by decide +kernel
theorem dX12_leastLimit_14 : decode cX12_leastLimit 14 = .ok (.invokevirtual 234, 3) := by decide +kernel
theorem dX12_leastLimit_17 : decode cX12_leastLimit 17 = .ok (.ireturn, 1) := by decide +kernel
theorem dX12_leastLimit_18 : decode cX12_leastLimit 18 = .ok (.aload_n 0, 1) := by decide +kernel
theorem dX12_leastLimit_19 : decode cX12_leastLimit 19 = .ok (.getfield 9, 3) := by decide +kernel
theorem dX12_leastLimit_22 : decode cX12_leastLimit 22 = .ok (.iconst 3, 1) := by decide +kernel
theorem dX12_leastLimit_23 : decode cX12_leastLimit 23 = .ok (.iaload, 1) := by decide +kernel
theorem dX12_leastLimit_24 : decode cX12_leastLimit 24 = .ok (.istore_n 2, 1) := by decide +kernel
theorem dX12_leastLimit_25 : decode cX12_leastLimit 25 = .ok (.iconst (-1), 1) := by decide +kernel
theorem dX12_leastLimit_26 : decode cX12_leastLimit 26 = .ok (.istore_n 3, 1) := by decide +kernel
theorem dX12_leastLimit_27 : decode cX12_leastLimit 27 = .ok (.iconst 0, 1) := by decide +kernel
theorem dX12_leastLimit_28 : decode cX12_leastLimit 28 = .ok (.istore 4, 2) := by decide +kernel
theorem dX12_leastLimit_30 : decode cX12_leastLimit 30 = .ok (.iload 4, 2) := by decide +kernel
theorem dX12_leastLimit_32 : decode cX12_leastLimit 32 = .ok (.sipush 999, 3) := by decide +kernel
theorem dX12_leastLimit_35 : decode cX12_leastLimit 35 = .ok (.if_icmp .gt 33, 3) := by decide +kernel
theorem dX12_leastLimit_38 : decode cX12_leastLimit 38 = .ok (.iload_n 3, 1) := by decide +kernel
theorem dX12_leastLimit_39 : decode cX12_leastLimit 39 = .ok (.iconst (-1), 1) := by decide +kernel
theorem dX12_leastLimit_40 : decode cX12_leastLimit 40 = .ok (.if_icmp .ne 28, 3) := by decide +kernel
theorem dX12_leastLimit_43 : decode cX12_leastLimit 43 = .ok (.aload_n 0, 1) := by decide +kernel
theorem dX12_leastLimit_44 : decode cX12_leastLimit 44 = .ok (.getfield 9, 3) := by decide +kernel
theorem dX12_leastLimit_47 : decode cX12_leastLimit 47 = .ok (.iconst 3, 1) := by decide +kernel
theorem dX12_leastLimit_48 : decode cX12_leastLimit 48 = .ok (.iload 4, 2) := by decide +kernel
theorem dX12_leastLimit_50 : decode cX12_leastLimit 50 = .ok (.iastore, 1) := by decide +kernel
theorem dX12_leastLimit_51 : decode cX12_leastLimit 51 = .ok (.aload_n 0, 1) := by decide +kernel
theorem dX12_leastLimit_52 : decode cX12_leastLimit 52 = .ok (.iload_n 1, 1) := by decide +kernel
theorem dX12_leastLimit_53 : decode cX12_leastLimit 53 = .ok (.invokevirtual 425, 3) := by decide +kernel
theorem dX12_leastLimit_56 : decode cX12_leastLimit 56 = .ok (.ifCond .ne 6, 3) := by decide +kernel
theorem dX12_leastLimit_59 : decode cX12_leastLimit 59 = .ok (.iload 4, 2) := by decide +kernel
theorem dX12_leastLimit_61 : decode cX12_leastLimit 61 = .ok (.istore_n 3, 1) := by decide +kernel
theorem dX12_leastLimit_62 : decode cX12_leastLimit 62 = .ok (.iinc 4 1, 3) := by decide +kernel
theorem dX12_leastLimit_65 : decode cX12_leastLimit 65 = .ok (.goto (-35), 3) := by decide +kernel
theorem dX12_leastLimit_68 : decode cX12_leastLimit 68 = .ok (.aload_n 0, 1) := by decide +kernel
theorem dX12_leastLimit_69 : decode cX12_leastLimit 69 = .ok (.getfield 9, 3) := by decide +kernel
theorem dX12_leastLimit_72 : decode cX12_leastLimit 72 = .ok (.iconst 3, 1) := by decide +kernel
theorem dX12_leastLimit_73 : decode cX12_leastLimit 73 = .ok (.iload_n 2, 1) := by decide +kernel
theorem dX12_leastLimit_74 : decode cX12_leastLimit 74 = .ok (.iastore, 1) := by decide +kernel
theorem dX12_leastLimit_75 : decode cX12_leastLimit 75 = .ok (.iload_n 3, 1) := by decide +kernel
theorem dX12_leastLimit_76 : decode cX12_leastLimit 76 = .ok (.ireturn, 1) := by decide +kernel
theorem dX12_worthOf_0 : decode cX12_worthOf 0 = .ok (.aload_n 0, 1) := by decide +kernel
theorem dX12_worthOf_1 : decode cX12_worthOf 1 = .ok (.iload_n 2, 1) := by decide +kernel
theorem dX12_worthOf_2 : decode cX12_worthOf 2 = .ok (.invokevirtual 425, 3) := by decide +kernel
theorem dX12_worthOf_5 : decode cX12_worthOf 5 = .ok (.pop, 1) := by decide +kernel
theorem dX12_worthOf_6 : decode cX12_worthOf 6 = .ok (.aload_n 0, 1) := by decide +kernel
theorem dX12_worthOf_7 : decode cX12_worthOf 7 = .ok (.getfield 413, 3) := by decide +kernel
theorem dX12_worthOf_10 : decode cX12_worthOf 10 = .ok (.iconst 1, 1) := by decide +kernel
theorem dX12_worthOf_11 : decode cX12_worthOf 11 = .ok (.iload_n 1, 1) := by decide +kernel
theorem dX12_worthOf_12 : decode cX12_worthOf 12 = .ok (.ishl, 1) := by decide +kernel
theorem dX12_worthOf_13 : decode cX12_worthOf 13 = .ok (.iconst (-1), 1) := by decide +kernel
theorem dX12_worthOf_14 : decode cX12_worthOf 14 = .ok (.ixor, 1) := by decide +kernel
theorem dX12_worthOf_15 : decode cX12_worthOf 15 = .ok (.iand, 1) := by decide +kernel
theorem dX12_worthOf_16 : decode cX12_worthOf 16 = .ok (.invokestatic 416, 3) := by decide +kernel
theorem dX12_worthOf_19 : decode cX12_worthOf 19 = .ok (.istore_n 3, 1) := by decide +kernel
theorem dX12_worthOf_20 : decode cX12_worthOf 20 = .ok (.aload_n 0, 1) := by decide +kernel
theorem dX12_worthOf_21 : decode cX12_worthOf 21 = .ok (.invokevirtual 380, 3) := by decide +kernel
theorem dX12_worthOf_24 : decode cX12_worthOf 24 = .ok (.aload_n 0, 1) := by decide +kernel
theorem dX12_worthOf_25 : decode cX12_worthOf 25 = .ok (.getfield 9, 3) := by decide +kernel
theorem dX12_worthOf_28 : decode cX12_worthOf 28 = .ok (.bipush 29, 2) := by decide +kernel
theorem dX12_worthOf_30 : decode cX12_worthOf 30 = .ok (.iload_n 1, 1) := by decide +kernel
theorem dX12_worthOf_31 : decode cX12_worthOf 31 = .ok (.iadd, 1) := by decide +kernel
theorem dX12_worthOf_32 : decode cX12_worthOf 32 = .ok (.iconst 1, 1) := by decide +kernel
theorem dX12_worthOf_33 : decode cX12_worthOf 33 = .ok (.iastore, 1) := by decide +kernel
theorem dX12_worthOf_34 : decode cX12_worthOf 34 = .ok (.aload_n 0, 1) := by decide +kernel
theorem dX12_worthOf_35 : decode cX12_worthOf 35 = .ok (.getfield 9, 3) := by decide +kernel
theorem dX12_worthOf_38 : decode cX12_worthOf 38 = .ok (.bipush 22, 2) := by decide +kernel
theorem dX12_worthOf_40 : decode cX12_worthOf 40 = .ok (.iload_n 1, 1) := by decide +kernel
theorem dX12_worthOf_41 : decode cX12_worthOf 41 = .ok (.iadd, 1) := by decide +kernel
theorem dX12_worthOf_42 : decode cX12_worthOf 42 = .ok (.iconst 0, 1) := by decide +kernel
theorem dX12_worthOf_43 : decode cX12_worthOf 43 = .ok (.iastore, 1) := by decide +kernel
theorem dX12_worthOf_44 : decode cX12_worthOf 44 = .ok (.aload_n 0, 1) := by decide +kernel
theorem dX12_worthOf_45 : decode cX12_worthOf 45 = .ok (.iload_n 2, 1) := by decide +kernel
theorem dX12_worthOf_46 : decode cX12_worthOf 46 = .ok (.invokevirtual 419, 3) := by decide +kernel
theorem dX12_worthOf_49 : decode cX12_worthOf 49 = .ok (.iload_n 3, 1) := by decide +kernel
theorem dX12_worthOf_50 : decode cX12_worthOf 50 = .ok (.isub, 1) := by decide +kernel
theorem dX12_worthOf_51 : decode cX12_worthOf 51 = .ok (.ireturn, 1) := by decide +kernel
theorem dX12_worth_0 : decode cX12_worth 0 = .ok (.aload_n 0, 1) := by decide +kernel
theorem dX12_worth_1 : decode cX12_worth 1 = .ok (.iload_n 1, 1) := by decide +kernel
theorem dX12_worth_2 : decode cX12_worth 2 = .ok (.iload_n 2, 1) := by decide +kernel
theorem dX12_worth_3 : decode cX12_worth 3 = .ok (.invokevirtual 467, 3) := by decide +kernel
theorem dX12_worth_6 : decode cX12_worth 6 = .ok (.ifCond .eq 7, 3) := by decide +kernel
theorem dX12_worth_9 : decode cX12_worth 9 = .ok (.iconst 0, 1) := by decide +kernel
theorem dX12_worth_10 : decode cX12_worth 10 = .ok (.goto 9, 3) := by decide +kernel
theorem dX12_worth_13 : decode cX12_worth 13 = .ok (.aload_n 0, 1) := by decide +kernel
theorem dX12_worth_14 : decode cX12_worth 14 = .ok (.iload_n 1, 1) := by decide +kernel
theorem dX12_worth_15 : decode cX12_worth 15 = .ok (.iload_n 2, 1) := by decide +kernel
theorem dX12_worth_16 : decode cX12_worth 16 = .ok (.invokevirtual 470, 3) := by decide +kernel
theorem dX12_worth_19 : decode cX12_worth 19 = .ok (.ireturn, 1) := by decide +kernel
theorem dX12_pillar_0 : decode cX12_pillar 0 = .ok (.aload_n 0, 1) := by decide +kernel
theorem dX12_pillar_1 : decode cX12_pillar 1 = .ok (.iconst 0, 1) := by decide +kernel
theorem dX12_pillar_2 : decode cX12_pillar 2 = .ok (.putfield 67, 3) := by decide +kernel
theorem dX12_pillar_5 : decode cX12_pillar 5 = .ok (.iload_n 1, 1) := by decide +kernel
theorem dX12_pillar_6 : decode cX12_pillar 6 = .ok (.invokestatic 422, 3) := by decide +kernel
theorem dX12_pillar_9 : decode cX12_pillar 9 = .ok (.ifCond .ne 9, 3) := by decide +kernel
theorem dX12_pillar_12 : decode cX12_pillar 12 = .ok (.aload_n 0, 1) := by decide +kernel
theorem dX12_pillar_13 : decode cX12_pillar 13 = .ok (.iconst 1, 1) := by decide +kernel
theorem dX12_pillar_14 : decode cX12_pillar 14 = .ok (.invokevirtual 234, 3) := by decide +kernel
theorem dX12_pillar_17 : decode cX12_pillar 17 = .ok (.ireturn, 1) := by decide +kernel
theorem dX12_pillar_18 : decode cX12_pillar 18 = .ok (.iconst (-1), 1) := by decide +kernel
theorem dX12_pillar_19 : decode cX12_pillar 19 = .ok (.istore_n 2, 1) := by decide +kernel
theorem dX12_pillar_20 : decode cX12_pillar 20 = .ok (.iconst 0, 1) := by decide +kernel
theorem dX12_pillar_21 : decode cX12_pillar 21 = .ok (.istore_n 3, 1) := by decide +kernel
theorem dX12_pillar_22 : decode cX12_pillar 22 = .ok (.iload_n 3, 1) := by decide +kernel
theorem dX12_pillar_23 : decode cX12_pillar 23 = .ok (.aload_n 0, 1) := by decide +kernel
theorem dX12_pillar_24 : decode cX12_pillar 24 = .ok (.invokevirtual 249, 3) := by decide +kernel
theorem dX12_pillar_27 : decode cX12_pillar 27 = .ok (.if_icmp .ge 28, 3) := by decide +kernel
theorem dX12_pillar_30 : decode cX12_pillar 30 = .ok (.aload_n 0, 1) := by decide +kernel
theorem dX12_pillar_31 : decode cX12_pillar 31 = .ok (.iload_n 3, 1) := by decide +kernel
theorem dX12_pillar_32 : decode cX12_pillar 32 = .ok (.invokevirtual 291, 3) := by decide +kernel
theorem dX12_pillar_35 : decode cX12_pillar 35 = .ok (.ifCond .ne 14, 3) := by decide +kernel
theorem dX12_pillar_38 : decode cX12_pillar 38 = .ok (.aload_n 0, 1) := by decide +kernel
theorem dX12_pillar_39 : decode cX12_pillar 39 = .ok (.iload_n 3, 1) := by decide +kernel
theorem dX12_pillar_40 : decode cX12_pillar 40 = .ok (.iload_n 1, 1) := by decide +kernel
theorem dX12_pillar_41 : decode cX12_pillar 41 = .ok (.invokevirtual 470, 3) := by decide +kernel
theorem dX12_pillar_44 : decode cX12_pillar 44 = .ok (.ifCond .le 5, 3) := by decide +kernel
theorem dX12_pillar_47 : decode cX12_pillar 47 = .ok (.iload_n 3, 1) := by decide +kernel
theorem dX12_pillar_48 : decode cX12_pillar 48 = .ok (.istore_n 2, 1) := by decide +kernel
theorem dX12_pillar_49 : decode cX12_pillar 49 = .ok (.iinc 3 1, 3) := by decide +kernel
theorem dX12_pillar_52 : decode cX12_pillar 52 = .ok (.goto (-30), 3) := by decide +kernel
theorem dX12_pillar_55 : decode cX12_pillar 55 = .ok (.iload_n 2, 1) := by decide +kernel
theorem dX12_pillar_56 : decode cX12_pillar 56 = .ok (.ireturn, 1) := by decide +kernel
theorem dX12_seenFault_0 : decode cX12_seenFault 0 = .ok (.iload_n 1, 1) := by decide +kernel
theorem dX12_seenFault_1 : decode cX12_seenFault 1 = .ok (.invokestatic 360, 3) := by decide +kernel
theorem dX12_seenFault_4 : decode cX12_seenFault 4 = .ok (.ifCond .eq 12, 3) := by decide +kernel
theorem dX12_seenFault_7 : decode cX12_seenFault 7 = .ok (.aload_n 0, 1) := by decide +kernel
theorem dX12_seenFault_8 : decode cX12_seenFault 8 = .ok (.iload_n 2, 1) := by decide +kernel
theorem dX12_seenFault_9 : decode cX12_seenFault 9 = .ok (.i2l, 1) := by decide +kernel
theorem dX12_seenFault_10 : decode cX12_seenFault 10 = .ok (.invokevirtual 313, 3) := by decide +kernel
theorem dX12_seenFault_13 : decode cX12_seenFault 13 = .ok (.ifCond .ne 5, 3) := by decide +kernel
theorem dX12_seenFault_16 : decode cX12_seenFault 16 = .ok (.iconst 1, 1) := by decide +kernel
theorem dX12_seenFault_17 : decode cX12_seenFault 17 = .ok (.ireturn, 1) := by decide +kernel
theorem dX12_seenFault_18 : decode cX12_seenFault 18 = .ok (.aload_n 0, 1) := by decide +kernel
theorem dX12_seenFault_19 : decode cX12_seenFault 19 = .ok (.getfield 57, 3) := by decide +kernel
theorem dX12_seenFault_22 : decode cX12_seenFault 22 = .ok (.iload_n 1, 1) := by decide +kernel
theorem dX12_seenFault_23 : decode cX12_seenFault 23 = .ok (.iaload, 1) := by decide +kernel
theorem dX12_seenFault_24 : decode cX12_seenFault 24 = .ok (.iconst (-1), 1) := by decide +kernel
theorem dX12_seenFault_25 : decode cX12_seenFault 25 = .ok (.if_icmp .ne 5, 3) := by decide +kernel
theorem dX12_seenFault_28 : decode cX12_seenFault 28 = .ok (.iconst 2, 1) := by decide +kernel
theorem dX12_seenFault_29 : decode cX12_seenFault 29 = .ok (.ireturn, 1) := by decide +kernel
theorem dX12_seenFault_30 : decode cX12_seenFault 30 = .ok (.aload_n 0, 1) := by decide +kernel
theorem dX12_seenFault_31 : decode cX12_seenFault 31 = .ok (.getfield 60, 3) := by decide +kernel
theorem dX12_seenFault_34 : decode cX12_seenFault 34 = .ok (.iload_n 1, 1) := by decide +kernel
theorem dX12_seenFault_35 : decode cX12_seenFault 35 = .ok (.iaload, 1) := by decide +kernel
theorem dX12_seenFault_36 : decode cX12_seenFault 36 = .ok (.i2l, 1) := by decide +kernel
theorem dX12_seenFault_37 : decode cX12_seenFault 37 = .ok (.lconst 1, 1) := by decide +kernel
theorem dX12_seenFault_38 : decode cX12_seenFault 38 = .ok (.ldc2_w 473, 3) := by decide +kernel
theorem dX12_seenFault_41 : decode cX12_seenFault 41 = .ok (.invokestatic 128, 3) := by decide +kernel
theorem dX12_seenFault_44 : decode cX12_seenFault 44 = .ok (.istore_n 3, 1) := by decide +kernel
theorem dX12_seenFault_45 : decode cX12_seenFault 45 = .ok (.iconst 0, 1) := by decide +kernel
theorem dX12_seenFault_46 : decode cX12_seenFault 46 = .ok (.istore 4, 2) := by decide +kernel
theorem dX12_seenFault_48 : decode cX12_seenFault 48 = .ok (.iload 4, 2) := by decide +kernel
theorem dX12_seenFault_50 : decode cX12_seenFault 50 = .ok (.aload_n 0, 1) := by decide +kernel
theorem dX12_seenFault_51 : decode cX12_seenFault 51 = .ok (.getfield 60, 3) := by decide +kernel
theorem dX12_seenFault_54 : decode cX12_seenFault 54 = .ok (.iload_n 1, 1) := by decide +kernel
theorem dX12_seenFault_55 : decode cX12_seenFault 55 = .ok (.iaload, 1) := by decide +kernel
theorem dX12_seenFault_56 : decode cX12_seenFault 56 = .ok (.if_icmp .ge 35, 3) := by decide +kernel
theorem dX12_seenFault_59 : decode cX12_seenFault 59 = .ok (.iload_n 3, 1) := by decide +kernel
theorem dX12_seenFault_60 : decode cX12_seenFault 60 = .ok (.ifCond .eq 31, 3) := by decide +kernel
theorem dX12_seenFault_63 : decode cX12_seenFault 63 = .ok (.aload_n 0, 1) := by decide +kernel
theorem dX12_seenFault_64 : decode cX12_seenFault 64 = .ok (.getfield 63, 3) := by decide +kernel
theorem dX12_seenFault_67 : decode cX12_seenFault 67 = .ok (.bipush 30, 2) := by decide +kernel
theorem dX12_seenFault_69 : decode cX12_seenFault 69 = .ok (.iload_n 1, 1) := by decide +kernel
theorem dX12_seenFault_70 : decode cX12_seenFault 70 = .ok (.imul, 1) := by decide +kernel
theorem dX12_seenFault_71 : decode cX12_seenFault 71 = .ok (.iload 4, 2) := by decide +kernel
theorem dX12_seenFault_73 : decode cX12_seenFault 73 = .ok (.iadd, 1) := by decide +kernel
theorem dX12_seenFault_74 : decode cX12_seenFault 74 = .ok (.laload, 1) := by decide +kernel
theorem dX12_seenFault_75 : decode cX12_seenFault 75 = .ok (.ldc2_w 363, 3) := by decide +kernel
theorem dX12_seenFault_78 : decode cX12_seenFault 78 = .ok (.ldc2_w 321, 3) := by decide +kernel
theorem dX12_seenFault_81 : decode cX12_seenFault 81 = .ok (.invokestatic 128, 3) := by decide +kernel
theorem dX12_seenFault_84 : decode cX12_seenFault 84 = .ok (.istore_n 3, 1) := by decide +kernel
theorem dX12_seenFault_85 : decode cX12_seenFault 85 = .ok (.iinc 4 1, 3) := by decide +kernel
theorem dX12_seenFault_88 : decode cX12_seenFault 88 = .ok (.goto (-40), 3) := by decide +kernel
theorem dX12_seenFault_91 : decode cX12_seenFault 91 = .ok (.iload_n 3, 1) := by decide +kernel
theorem dX12_seenFault_92 : decode cX12_seenFault 92 = .ok (.ifCond .eq 7, 3) := by decide +kernel
theorem dX12_seenFault_95 : decode cX12_seenFault 95 = .ok (.iconst 0, 1) := by decide +kernel
theorem dX12_seenFault_96 : decode cX12_seenFault 96 = .ok (.goto 4, 3) := by decide +kernel
theorem dX12_seenFault_99 : decode cX12_seenFault 99 = .ok (.iconst 3, 1) := by decide +kernel
theorem dX12_seenFault_100 : decode cX12_seenFault 100 = .ok (.ireturn, 1) := by decide +kernel
theorem dX12_laysFits_0 : decode cX12_laysFits 0 = .ok (.aload_n 0, 1) := by decide +kernel
theorem dX12_laysFits_1 : decode cX12_laysFits 1 = .ok (.iconst 0, 1) := by decide +kernel
theorem dX12_laysFits_2 : decode cX12_laysFits 2 = .ok (.putfield 475, 3) := by decide +kernel
theorem dX12_laysFits_5 : decode cX12_laysFits 5 = .ok (.iconst 0, 1) := by decide +kernel
theorem dX12_laysFits_6 : decode cX12_laysFits 6 = .ok (.istore_n 3, 1) := by decide +kernel
theorem dX12_laysFits_7 : decode cX12_laysFits 7 = .ok (.iload_n 3, 1) := by decide +kernel
theorem dX12_laysFits_8 : decode cX12_laysFits 8 = .ok (.aload_n 0, 1) := by decide +kernel
theorem dX12_laysFits_9 : decode cX12_laysFits 9 = .ok (.invokevirtual 249, 3) := by decide +kernel
theorem dX12_laysFits_12 : decode cX12_laysFits 12 = .ok (.bipush 99, 2) := by decide +kernel
theorem dX12_laysFits_14 : decode cX12_laysFits 14 = .ok (.imul, 1) := by decide +kernel
theorem dX12_laysFits_15 : decode cX12_laysFits 15 = .ok (.if_icmp .ge 165, 3) := by decide +kernel
theorem dX12_laysFits_18 : decode cX12_laysFits 18 = .ok (.aload_n 0, 1) := by decide +kernel
theorem dX12_laysFits_19 : decode cX12_laysFits 19 = .ok (.invokevirtual 380, 3) := by decide +kernel
theorem dX12_laysFits_22 : decode cX12_laysFits 22 = .ok (.iconst 0, 1) := by decide +kernel
theorem dX12_laysFits_23 : decode cX12_laysFits 23 = .ok (.istore 4, 2) := by decide +kernel
theorem dX12_laysFits_25 : decode cX12_laysFits 25 = .ok (.iload 4, 2) := by decide +kernel
theorem dX12_laysFits_27 : decode cX12_laysFits 27 = .ok (.bipush 44, 2) := by decide +kernel
theorem dX12_laysFits_29 : decode cX12_laysFits 29 = .ok (.if_icmp .ge 29, 3) := by decide +kernel
theorem dX12_laysFits_32 : decode cX12_laysFits 32 = .ok (.aload_n 0, 1) := by decide +kernel
theorem dX12_laysFits_33 : decode cX12_laysFits 33 = .ok (.getfield 9, 3) := by decide +kernel
theorem dX12_laysFits_36 : decode cX12_laysFits 36 = .ok (.bipush 8, 2) := by decide +kernel
theorem dX12_laysFits_38 : decode cX12_laysFits 38 = .ok (.iload 4, 2) := by decide +kernel
theorem dX12_laysFits_40 : decode cX12_laysFits 40 = .ok (.iadd, 1) := by decide +kernel
theorem dX12_laysFits_41 : decode cX12_laysFits 41 = .ok (.aload_n 0, 1) := by decide +kernel
theorem dX12_laysFits_42 : decode cX12_laysFits 42 = .ok (.getfield 9, 3) := by decide +kernel
theorem dX12_laysFits_45 : decode cX12_laysFits 45 = .ok (.bipush 52, 2) := by decide +kernel
theorem dX12_laysFits_47 : decode cX12_laysFits 47 = .ok (.iload 4, 2) := by decide +kernel
theorem dX12_laysFits_49 : decode cX12_laysFits 49 = .ok (.iadd, 1) := by decide +kernel
theorem dX12_laysFits_50 : decode cX12_laysFits 50 = .ok (.iaload, 1) := by decide +kernel
theorem dX12_laysFits_51 : decode cX12_laysFits 51 = .ok (.iastore, 1) := by decide +kernel
theorem dX12_laysFits_52 : decode cX12_laysFits 52 = .ok (.iinc 4 1, 3) := by decide +kernel
theorem dX12_laysFits_55 : decode cX12_laysFits 55 = .ok (.goto (-30), 3) := by decide +kernel
theorem dX12_laysFits_58 : decode cX12_laysFits 58 = .ok (.aload_n 0, 1) := by decide +kernel
theorem dX12_laysFits_59 : decode cX12_laysFits 59 = .ok (.getfield 9, 3) := by decide +kernel
theorem dX12_laysFits_62 : decode cX12_laysFits 62 = .ok (.bipush 36, 2) := by decide +kernel
theorem dX12_laysFits_64 : decode cX12_laysFits 64 = .ok (.iload_n 3, 1) := by decide +kernel
theorem dX12_laysFits_65 : decode cX12_laysFits 65 = .ok (.bipush 99, 2) := by decide +kernel
theorem dX12_laysFits_67 : decode cX12_laysFits 67 = .ok (.idiv, 1) := by decide +kernel
theorem dX12_laysFits_68 : decode cX12_laysFits 68 = .ok (.iadd, 1) := by decide +kernel
theorem dX12_laysFits_69 : decode cX12_laysFits 69 = .ok (.dup2, 1) := by decide +kernel
theorem dX12_laysFits_70 : decode cX12_laysFits 70 = .ok (.iaload, 1) := by decide +kernel
theorem dX12_laysFits_71 : decode cX12_laysFits 71 = .ok (.iload_n 3, 1) := by decide +kernel
theorem dX12_laysFits_72 : decode cX12_laysFits 72 = .ok (.bipush 99, 2) := by decide +kernel
theorem dX12_laysFits_74 : decode cX12_laysFits 74 = .ok (.irem, 1) := by decide +kernel
theorem dX12_laysFits_75 : decode cX12_laysFits 75 = .ok (.iconst 1, 1) := by decide +kernel
theorem dX12_laysFits_76 : decode cX12_laysFits 76 = .ok (.iadd, 1) := by decide +kernel
theorem dX12_laysFits_77 : decode cX12_laysFits 77 = .ok (.iadd, 1) := by decide +kernel
theorem dX12_laysFits_78 : decode cX12_laysFits 78 = .ok (.iastore, 1) := by decide +kernel
theorem dX12_laysFits_79 : decode cX12_laysFits 79 = .ok (.iconst 1, 1) := by decide +kernel
theorem dX12_laysFits_80 : decode cX12_laysFits 80 = .ok (.istore 4, 2) := by decide +kernel
theorem dX12_laysFits_82 : decode cX12_laysFits 82 = .ok (.iconst 0, 1) := by decide +kernel
theorem dX12_laysFits_83 : decode cX12_laysFits 83 = .ok (.istore 5, 2) := by decide +kernel
theorem dX12_laysFits_85 : decode cX12_laysFits 85 = .ok (.iload 5, 2) := by decide +kernel
theorem dX12_laysFits_87 : decode cX12_laysFits 87 = .ok (.aload_n 0, 1) := by decide +kernel
theorem dX12_laysFits_88 : decode cX12_laysFits 88 = .ok (.getfield 60, 3) := by decide +kernel
theorem dX12_laysFits_91 : decode cX12_laysFits 91 = .ok (.iload_n 1, 1) := by decide +kernel
theorem dX12_laysFits_92 : decode cX12_laysFits 92 = .ok (.iaload, 1) := by decide +kernel
theorem dX12_laysFits_93 : decode cX12_laysFits 93 = .ok (.if_icmp .ge 67, 3) := by decide +kernel
theorem dX12_laysFits_96 : decode cX12_laysFits 96 = .ok (.iload 4, 2) := by decide +kernel
theorem dX12_laysFits_98 : decode cX12_laysFits 98 = .ok (.ifCond .eq 62, 3) := by decide +kernel
theorem dX12_laysFits_101 : decode cX12_laysFits 101 = .ok (.aload_n 0, 1) := by decide +kernel
theorem dX12_laysFits_102 : decode cX12_laysFits 102 = .ok (.invokevirtual 356, 3) := by decide +kernel
theorem dX12_laysFits_105 : decode cX12_laysFits 105 = .ok (.aload_n 0, 1) := by decide +kernel
theorem dX12_laysFits_106 : decode cX12_laysFits 106 = .ok (.getfield 63, 3) := by decide +kernel
theorem dX12_laysFits_109 : decode cX12_laysFits 109 = .ok (.bipush 30, 2) := by decide +kernel
theorem dX12_laysFits_111 : decode cX12_laysFits 111 = .ok (.iload_n 1, 1) := by decide +kernel
theorem dX12_laysFits_112 : decode cX12_laysFits 112 = .ok (.imul, 1) := by decide +kernel
theorem dX12_laysFits_113 : decode cX12_laysFits 113 = .ok (.iload 5, 2) := by decide +kernel
theorem dX12_laysFits_115 : decode cX12_laysFits 115 = .ok (.iadd, 1) := by decide +kernel
theorem dX12_laysFits_116 : decode cX12_laysFits 116 = .ok (.laload, 1) := by decide +kernel
theorem dX12_laysFits_117 : decode cX12_laysFits 117 = .ok (.ldc2_w 363, 3) := by decide +kernel
theorem dX12_laysFits_120 : decode cX12_laysFits 120 = .ok (.lcmp, 1) := by decide +kernel
theorem dX12_laysFits_121 : decode cX12_laysFits 121 = .ok (.ifCond .eq 26, 3) := by decide +kernel
theorem dX12_laysFits_124 : decode cX12_laysFits 124 = .ok (.aload_n 0, 1) := by decide +kernel
theorem dX12_laysFits_125 : decode cX12_laysFits 125 = .ok (.getfield 63, 3) := by decide +kernel
theorem dX12_laysFits_128 : decode cX12_laysFits 128 = .ok (.bipush 30, 2) := by decide +kernel
theorem dX12_laysFits_130 : decode cX12_laysFits 130 = .ok (.iload_n 1, 1) := by decide +kernel
theorem dX12_laysFits_131 : decode cX12_laysFits 131 = .ok (.imul, 1) := by decide +kernel
theorem dX12_laysFits_132 : decode cX12_laysFits 132 = .ok (.iload 5, 2) := by decide +kernel
theorem dX12_laysFits_134 : decode cX12_laysFits 134 = .ok (.iadd, 1) := by decide +kernel
theorem dX12_laysFits_135 : decode cX12_laysFits 135 = .ok (.laload, 1) := by decide +kernel
theorem dX12_laysFits_136 : decode cX12_laysFits 136 = .ok (.aload_n 0, 1) := by decide +kernel
theorem dX12_laysFits_137 : decode cX12_laysFits 137 = .ok (.getfield 36, 3) := by decide +kernel
theorem dX12_laysFits_140 : decode cX12_laysFits 140 = .ok (.iload_n 2, 1) := by decide +kernel
theorem dX12_laysFits_141 : decode cX12_laysFits 141 = .ok (.iaload, 1) := by decide +kernel
theorem dX12_laysFits_142 : decode cX12_laysFits 142 = .ok (.i2l, 1) := by decide +kernel
theorem dX12_laysFits_143 : decode cX12_laysFits 143 = .ok (.lcmp, 1) := by decide +kernel
theorem dX12_laysFits_144 : decode cX12_laysFits 144 = .ok (.ifCond .ne 7, 3) := by decide +kernel
theorem dX12_laysFits_147 : decode cX12_laysFits 147 = .ok (.iconst 1, 1) := by decide +kernel
theorem dX12_laysFits_148 : decode cX12_laysFits 148 = .ok (.goto 4, 3) := by decide +kernel
theorem dX12_laysFits_151 : decode cX12_laysFits 151 = .ok (.iconst 0, 1) := by decide +kernel
theorem dX12_laysFits_152 : decode cX12_laysFits 152 = .ok (.istore 4, 2) := by decide +kernel
theorem dX12_laysFits_154 : decode cX12_laysFits 154 = .ok (.iinc 5 1, 3) := by decide +kernel
theorem dX12_laysFits_157 : decode cX12_laysFits 157 = .ok (.goto (-72), 3) := by decide +kernel
theorem dX12_laysFits_160 : decode cX12_laysFits 160 = .ok (.iload 4, 2) := by decide +kernel
theorem dX12_laysFits_162 : decode cX12_laysFits 162 = .ok (.ifCond .eq 8, 3) := by decide +kernel
theorem dX12_laysFits_165 : decode cX12_laysFits 165 = .ok (.aload_n 0, 1) := by decide +kernel
theorem dX12_laysFits_166 : decode cX12_laysFits 166 = .ok (.iload_n 3, 1) := by decide +kernel
theorem dX12_laysFits_167 : decode cX12_laysFits 167 = .ok (.invokevirtual 478, 3) := by decide +kernel
theorem dX12_laysFits_170 : decode cX12_laysFits 170 = .ok (.aload_n 0, 1) := by decide +kernel
theorem dX12_laysFits_171 : decode cX12_laysFits 171 = .ok (.invokevirtual 392, 3) := by decide +kernel
theorem dX12_laysFits_174 : decode cX12_laysFits 174 = .ok (.iinc 3 1, 3) := by decide +kernel
theorem dX12_laysFits_177 : decode cX12_laysFits 177 = .ok (.goto (-170), 3) := by decide +kernel
theorem dX12_laysFits_180 : decode cX12_laysFits 180 = .ok (.return_, 1) := by decide +kernel
theorem dX12_addsFit_0 : decode cX12_addsFit 0 = .ok (.aload_n 0, 1) := by decide +kernel
theorem dX12_addsFit_1 : decode cX12_addsFit 1 = .ok (.invokevirtual 356, 3) := by decide +kernel
theorem dX12_addsFit_4 : decode cX12_addsFit 4 = .ok (.iconst 0, 1) := by decide +kernel
theorem dX12_addsFit_5 : decode cX12_addsFit 5 = .ok (.istore_n 2, 1) := by decide +kernel
theorem dX12_addsFit_6 : decode cX12_addsFit 6 = .ok (.iload_n 2, 1) := by decide +kernel
theorem dX12_addsFit_7 : decode cX12_addsFit 7 = .ok (.aload_n 0, 1) := by decide +kernel
theorem dX12_addsFit_8 : decode cX12_addsFit 8 = .ok (.invokevirtual 249, 3) := by decide +kernel
theorem dX12_addsFit_11 : decode cX12_addsFit 11 = .ok (.if_icmp .ge 29, 3) := by decide +kernel
theorem dX12_addsFit_14 : decode cX12_addsFit 14 = .ok (.aload_n 0, 1) := by decide +kernel
theorem dX12_addsFit_15 : decode cX12_addsFit 15 = .ok (.getfield 54, 3) := by decide +kernel
theorem dX12_addsFit_18 : decode cX12_addsFit 18 = .ok (.bipush 7, 2) := by decide +kernel
theorem dX12_addsFit_20 : decode cX12_addsFit 20 = .ok (.aload_n 0, 1) := by decide +kernel
theorem dX12_addsFit_21 : decode cX12_addsFit 21 = .ok (.getfield 475, 3) := by decide +kernel
theorem dX12_addsFit_24 : decode cX12_addsFit 24 = .ok (.imul, 1) := by decide +kernel
theorem dX12_addsFit_25 : decode cX12_addsFit 25 = .ok (.iload_n 2, 1) := by decide +kernel
theorem dX12_addsFit_26 : decode cX12_addsFit 26 = .ok (.iadd, 1) := by decide +kernel
theorem dX12_addsFit_27 : decode cX12_addsFit 27 = .ok (.aload_n 0, 1) := by decide +kernel
theorem dX12_addsFit_28 : decode cX12_addsFit 28 = .ok (.getfield 36, 3) := by decide +kernel
theorem dX12_addsFit_31 : decode cX12_addsFit 31 = .ok (.iload_n 2, 1) := by decide +kernel
theorem dX12_addsFit_32 : decode cX12_addsFit 32 = .ok (.iaload, 1) := by decide +kernel
theorem dX12_addsFit_33 : decode cX12_addsFit 33 = .ok (.iastore, 1) := by decide +kernel
theorem dX12_addsFit_34 : decode cX12_addsFit 34 = .ok (.iinc 2 1, 3) := by decide +kernel
theorem dX12_addsFit_37 : decode cX12_addsFit 37 = .ok (.goto (-31), 3) := by decide +kernel
theorem dX12_addsFit_40 : decode cX12_addsFit 40 = .ok (.aload_n 0, 1) := by decide +kernel
theorem dX12_addsFit_41 : decode cX12_addsFit 41 = .ok (.getfield 51, 3) := by decide +kernel
theorem dX12_addsFit_44 : decode cX12_addsFit 44 = .ok (.aload_n 0, 1) := by decide +kernel
theorem dX12_addsFit_45 : decode cX12_addsFit 45 = .ok (.getfield 475, 3) := by decide +kernel
theorem dX12_addsFit_48 : decode cX12_addsFit 48 = .ok (.bipush 100, 2) := by decide +kernel
theorem dX12_addsFit_50 : decode cX12_addsFit 50 = .ok (.iload_n 1, 1) := by decide +kernel
theorem dX12_addsFit_51 : decode cX12_addsFit 51 = .ok (.bipush 99, 2) := by decide +kernel
theorem dX12_addsFit_53 : decode cX12_addsFit 53 = .ok (.idiv, 1) := by decide +kernel
theorem dX12_addsFit_54 : decode cX12_addsFit 54 = .ok (.imul, 1) := by decide +kernel
theorem dX12_addsFit_55 : decode cX12_addsFit 55 = .ok (.iload_n 1, 1) := by decide +kernel
theorem dX12_addsFit_56 : decode cX12_addsFit 56 = .ok (.bipush 99, 2) := by decide +kernel
theorem dX12_addsFit_58 : decode cX12_addsFit 58 = .ok (.irem, 1) := by decide +kernel
theorem dX12_addsFit_59 : decode cX12_addsFit 59 = .ok (.iadd, 1) := by decide +kernel
theorem dX12_addsFit_60 : decode cX12_addsFit 60 = .ok (.iconst 1, 1) := by decide +kernel
theorem dX12_addsFit_61 : decode cX12_addsFit 61 = .ok (.iadd, 1) := by decide +kernel
theorem dX12_addsFit_62 : decode cX12_addsFit 62 = .ok (.iastore, 1) := by decide +kernel
theorem dX12_addsFit_63 : decode cX12_addsFit 63 = .ok (.aload_n 0, 1) := by decide +kernel
theorem dX12_addsFit_64 : decode cX12_addsFit 64 = .ok (.dup, 1) := by decide +kernel
theorem dX12_addsFit_65 : decode cX12_addsFit 65 = .ok (.getfield 475, 3) := by decide +kernel
theorem dX12_addsFit_68 : decode cX12_addsFit 68 = .ok (.iconst 1, 1) := by decide +kernel
theorem dX12_addsFit_69 : decode cX12_addsFit 69 = .ok (.iadd, 1) := by decide +kernel
theorem dX12_addsFit_70 : decode cX12_addsFit 70 = .ok (.putfield 475, 3) := by decide +kernel
theorem dX12_addsFit_73 : decode cX12_addsFit 73 = .ok (.return_, 1) := by decide +kernel
theorem dX12_seen_0 : decode cX12_seen 0 = .ok (.aload_n 0, 1) := by decide +kernel
theorem dX12_seen_1 : decode cX12_seen 1 = .ok (.aload_n 0, 1) := by decide +kernel
theorem dX12_seen_2 : decode cX12_seen 2 = .ok (.iload_n 1, 1) := by decide +kernel
theorem dX12_seen_3 : decode cX12_seen 3 = .ok (.iload_n 2, 1) := by decide +kernel
theorem dX12_seen_4 : decode cX12_seen 4 = .ok (.invokevirtual 481, 3) := by decide +kernel
theorem dX12_seen_7 : decode cX12_seen 7 = .ok (.putfield 67, 3) := by decide +kernel
theorem dX12_seen_10 : decode cX12_seen 10 = .ok (.aload_n 0, 1) := by decide +kernel
theorem dX12_seen_11 : decode cX12_seen 11 = .ok (.getfield 67, 3) := by decide +kernel
theorem dX12_seen_14 : decode cX12_seen 14 = .ok (.ifCond .le 5, 3) := by decide +kernel
theorem dX12_seen_17 : decode cX12_seen 17 = .ok (.iconst 0, 1) := by decide +kernel
theorem dX12_seen_18 : decode cX12_seen 18 = .ok (.ireturn, 1) := by decide +kernel
theorem dX12_seen_19 : decode cX12_seen 19 = .ok (.aload_n 0, 1) := by decide +kernel
theorem dX12_seen_20 : decode cX12_seen 20 = .ok (.iload_n 1, 1) := by decide +kernel
theorem dX12_seen_21 : decode cX12_seen 21 = .ok (.iload_n 2, 1) := by decide +kernel
theorem dX12_seen_22 : decode cX12_seen 22 = .ok (.invokevirtual 484, 3) := by decide +kernel
theorem dX12_seen_25 : decode cX12_seen 25 = .ok (.aload_n 0, 1) := by decide +kernel
theorem dX12_seen_26 : decode cX12_seen 26 = .ok (.getfield 475, 3) := by decide +kernel
theorem dX12_seen_29 : decode cX12_seen 29 = .ok (.ireturn, 1) := by decide +kernel
theorem dX12_hidden_0 : decode cX12_hidden 0 = .ok (.aload_n 0, 1) := by decide +kernel
theorem dX12_hidden_1 : decode cX12_hidden 1 = .ok (.aload_n 0, 1) := by decide +kernel
theorem dX12_hidden_2 : decode cX12_hidden 2 = .ok (.iload_n 1, 1) := by decide +kernel
theorem dX12_hidden_3 : decode cX12_hidden 3 = .ok (.iload_n 2, 1) := by decide +kernel
theorem dX12_hidden_4 : decode cX12_hidden 4 = .ok (.invokevirtual 481, 3) := by decide +kernel
theorem dX12_hidden_7 : decode cX12_hidden 7 = .ok (.putfield 67, 3) := by decide +kernel
theorem dX12_hidden_10 : decode cX12_hidden 10 = .ok (.aload_n 0, 1) := by decide +kernel
theorem dX12_hidden_11 : decode cX12_hidden 11 = .ok (.getfield 67, 3) := by decide +kernel
theorem dX12_hidden_14 : decode cX12_hidden 14 = .ok (.ifCond .ne 12, 3) := by decide +kernel
theorem dX12_hidden_17 : decode cX12_hidden 17 = .ok (.iload_n 3, 1) := by decide +kernel
theorem dX12_hidden_18 : decode cX12_hidden 18 = .ok (.ifCond .ge 8, 3) := by decide +kernel
theorem dX12_hidden_21 : decode cX12_hidden 21 = .ok (.aload_n 0, 1) := by decide +kernel
theorem dX12_hidden_22 : decode cX12_hidden 22 = .ok (.iconst 3, 1) := by decide +kernel
theorem dX12_hidden_23 : decode cX12_hidden 23 = .ok (.putfield 67, 3) := by decide +kernel
theorem dX12_hidden_26 : decode cX12_hidden 26 = .ok (.aload_n 0, 1) := by decide +kernel
theorem dX12_hidden_27 : decode cX12_hidden 27 = .ok (.getfield 67, 3) := by decide +kernel
theorem dX12_hidden_30 : decode cX12_hidden 30 = .ok (.ifCond .le 5, 3) := by decide +kernel
theorem dX12_hidden_33 : decode cX12_hidden 33 = .ok (.iconst 0, 1) := by decide +kernel
theorem dX12_hidden_34 : decode cX12_hidden 34 = .ok (.ireturn, 1) := by decide +kernel
theorem dX12_hidden_35 : decode cX12_hidden 35 = .ok (.aload_n 0, 1) := by decide +kernel
theorem dX12_hidden_36 : decode cX12_hidden 36 = .ok (.iload_n 1, 1) := by decide +kernel
theorem dX12_hidden_37 : decode cX12_hidden 37 = .ok (.iload_n 2, 1) := by decide +kernel
theorem dX12_hidden_38 : decode cX12_hidden 38 = .ok (.invokevirtual 484, 3) := by decide +kernel
theorem dX12_hidden_41 : decode cX12_hidden 41 = .ok (.iload_n 3, 1) := by decide +kernel
theorem dX12_hidden_42 : decode cX12_hidden 42 = .ok (.aload_n 0, 1) := by decide +kernel
theorem dX12_hidden_43 : decode cX12_hidden 43 = .ok (.getfield 475, 3) := by decide +kernel
theorem dX12_hidden_46 : decode cX12_hidden 46 = .ok (.if_icmp .ge 12, 3) := by decide +kernel
theorem dX12_hidden_49 : decode cX12_hidden 49 = .ok (.aload_n 0, 1) := by decide +kernel
theorem dX12_hidden_50 : decode cX12_hidden 50 = .ok (.getfield 51, 3) := by decide +kernel
theorem dX12_hidden_53 : decode cX12_hidden 53 = .ok (.iload_n 3, 1) := by decide +kernel
theorem dX12_hidden_54 : decode cX12_hidden 54 = .ok (.iaload, 1) := by decide +kernel
theorem dX12_hidden_55 : decode cX12_hidden 55 = .ok (.goto 4, 3) := by decide +kernel
theorem dX12_hidden_58 : decode cX12_hidden 58 = .ok (.iconst (-1), 1) := by decide +kernel
theorem dX12_hidden_59 : decode cX12_hidden 59 = .ok (.ireturn, 1) := by decide +kernel
theorem dX12_mostLike_0 : decode cX12_mostLike 0 = .ok (.iconst 0, 1) := by decide +kernel
theorem dX12_mostLike_1 : decode cX12_mostLike 1 = .ok (.istore_n 2, 1) := by decide +kernel
theorem dX12_mostLike_2 : decode cX12_mostLike 2 = .ok (.iconst 0, 1) := by decide +kernel
theorem dX12_mostLike_3 : decode cX12_mostLike 3 = .ok (.istore_n 3, 1) := by decide +kernel
theorem dX12_mostLike_4 : decode cX12_mostLike 4 = .ok (.iload_n 3, 1) := by decide +kernel
theorem dX12_mostLike_5 : decode cX12_mostLike 5 = .ok (.aload_n 0, 1) := by decide +kernel
theorem dX12_mostLike_6 : decode cX12_mostLike 6 = .ok (.getfield 475, 3) := by decide +kernel
theorem dX12_mostLike_9 : decode cX12_mostLike 9 = .ok (.if_icmp .ge 73, 3) := by decide +kernel
theorem dX12_mostLike_12 : decode cX12_mostLike 12 = .ok (.iconst 0, 1) := by decide +kernel
theorem dX12_mostLike_13 : decode cX12_mostLike 13 = .ok (.istore 4, 2) := by decide +kernel
theorem dX12_mostLike_15 : decode cX12_mostLike 15 = .ok (.iconst 0, 1) := by decide +kernel
theorem dX12_mostLike_16 : decode cX12_mostLike 16 = .ok (.istore 5, 2) := by decide +kernel
theorem dX12_mostLike_18 : decode cX12_mostLike 18 = .ok (.iload 5, 2) := by decide +kernel
theorem dX12_mostLike_20 : decode cX12_mostLike 20 = .ok (.aload_n 0, 1) := by decide +kernel
theorem dX12_mostLike_21 : decode cX12_mostLike 21 = .ok (.getfield 475, 3) := by decide +kernel
theorem dX12_mostLike_24 : decode cX12_mostLike 24 = .ok (.if_icmp .ge 45, 3) := by decide +kernel
theorem dX12_mostLike_27 : decode cX12_mostLike 27 = .ok (.iload 4, 2) := by decide +kernel
theorem dX12_mostLike_29 : decode cX12_mostLike 29 = .ok (.aload_n 0, 1) := by decide +kernel
theorem dX12_mostLike_30 : decode cX12_mostLike 30 = .ok (.getfield 54, 3) := by decide +kernel
theorem dX12_mostLike_33 : decode cX12_mostLike 33 = .ok (.bipush 7, 2) := by decide +kernel
theorem dX12_mostLike_35 : decode cX12_mostLike 35 = .ok (.iload 5, 2) := by decide +kernel
theorem dX12_mostLike_37 : decode cX12_mostLike 37 = .ok (.imul, 1) := by decide +kernel
theorem dX12_mostLike_38 : decode cX12_mostLike 38 = .ok (.iload_n 1, 1) := by decide +kernel
theorem dX12_mostLike_39 : decode cX12_mostLike 39 = .ok (.iadd, 1) := by decide +kernel
theorem dX12_mostLike_40 : decode cX12_mostLike 40 = .ok (.iaload, 1) := by decide +kernel
theorem dX12_mostLike_41 : decode cX12_mostLike 41 = .ok (.aload_n 0, 1) := by decide +kernel
theorem dX12_mostLike_42 : decode cX12_mostLike 42 = .ok (.getfield 54, 3) := by decide +kernel
theorem dX12_mostLike_45 : decode cX12_mostLike 45 = .ok (.bipush 7, 2) := by decide +kernel
theorem dX12_mostLike_47 : decode cX12_mostLike 47 = .ok (.iload_n 3, 1) := by decide +kernel
theorem dX12_mostLike_48 : decode cX12_mostLike 48 = .ok (.imul, 1) := by decide +kernel
theorem dX12_mostLike_49 : decode cX12_mostLike 49 = .ok (.iload_n 1, 1) := by decide +kernel
theorem dX12_mostLike_50 : decode cX12_mostLike 50 = .ok (.iadd, 1) := by decide +kernel
theorem dX12_mostLike_51 : decode cX12_mostLike 51 = .ok (.iaload, 1) := by decide +kernel
theorem dX12_mostLike_52 : decode cX12_mostLike 52 = .ok (.if_icmp .ne 7, 3) := by decide +kernel
theorem dX12_mostLike_55 : decode cX12_mostLike 55 = .ok (.iconst 1, 1) := by decide +kernel
theorem dX12_mostLike_56 : decode cX12_mostLike 56 = .ok (.goto 4, 3) := by decide +kernel
theorem dX12_mostLike_59 : decode cX12_mostLike 59 = .ok (.iconst 0, 1) := by decide +kernel
theorem dX12_mostLike_60 : decode cX12_mostLike 60 = .ok (.iadd, 1) := by decide +kernel
theorem dX12_mostLike_61 : decode cX12_mostLike 61 = .ok (.istore 4, 2) := by decide +kernel
theorem dX12_mostLike_63 : decode cX12_mostLike 63 = .ok (.iinc 5 1, 3) := by decide +kernel
theorem dX12_mostLike_66 : decode cX12_mostLike 66 = .ok (.goto (-48), 3) := by decide +kernel
theorem dX12_mostLike_69 : decode cX12_mostLike 69 = .ok (.iload_n 2, 1) := by decide +kernel
theorem dX12_mostLike_70 : decode cX12_mostLike 70 = .ok (.iload 4, 2) := by decide +kernel
theorem dX12_mostLike_72 : decode cX12_mostLike 72 = .ok (.invokestatic 276, 3) := by decide +kernel
theorem dX12_mostLike_75 : decode cX12_mostLike 75 = .ok (.istore_n 2, 1) := by decide +kernel
theorem dX12_mostLike_76 : decode cX12_mostLike 76 = .ok (.iinc 3 1, 3) := by decide +kernel
theorem dX12_mostLike_79 : decode cX12_mostLike 79 = .ok (.goto (-75), 3) := by decide +kernel
theorem dX12_mostLike_82 : decode cX12_mostLike 82 = .ok (.iload_n 2, 1) := by decide +kernel
theorem dX12_mostLike_83 : decode cX12_mostLike 83 = .ok (.ireturn, 1) := by decide +kernel
theorem dX12_look_0 : decode cX12_look 0 = .ok (.aload_n 0, 1) := by decide +kernel
theorem dX12_look_1 : decode cX12_look 1 = .ok (.aload_n 0, 1) := by decide +kernel
theorem dX12_look_2 : decode cX12_look 2 = .ok (.iload_n 1, 1) := by decide +kernel
theorem dX12_look_3 : decode cX12_look 3 = .ok (.iload_n 2, 1) := by decide +kernel
theorem dX12_look_4 : decode cX12_look 4 = .ok (.invokevirtual 481, 3) := by decide +kernel
theorem dX12_look_7 : decode cX12_look 7 = .ok (.putfield 67, 3) := by decide +kernel
theorem dX12_look_10 : decode cX12_look 10 = .ok (.aload_n 0, 1) := by decide +kernel
theorem dX12_look_11 : decode cX12_look 11 = .ok (.getfield 67, 3) := by decide +kernel
theorem dX12_look_14 : decode cX12_look 14 = .ok (.ifCond .le 5, 3) := by decide +kernel
theorem dX12_look_17 : decode cX12_look 17 = .ok (.iconst 0, 1) := by decide +kernel
theorem dX12_look_18 : decode cX12_look 18 = .ok (.ireturn, 1) := by decide +kernel
theorem dX12_look_19 : decode cX12_look 19 = .ok (.aload_n 0, 1) := by decide +kernel
theorem dX12_look_20 : decode cX12_look 20 = .ok (.iload_n 1, 1) := by decide +kernel
theorem dX12_look_21 : decode cX12_look 21 = .ok (.iload_n 2, 1) := by decide +kernel
theorem dX12_look_22 : decode cX12_look 22 = .ok (.invokevirtual 484, 3) := by decide +kernel
theorem dX12_look_25 : decode cX12_look 25 = .ok (.iconst (-1), 1) := by decide +kernel
theorem dX12_look_26 : decode cX12_look 26 = .ok (.istore_n 3, 1) := by decide +kernel
theorem dX12_look_27 : decode cX12_look 27 = .ok (.ldc_w 454, 3) := by decide +kernel
theorem dX12_look_30 : decode cX12_look 30 = .ok (.istore 4, 2) := by decide +kernel
theorem dX12_look_32 : decode cX12_look 32 = .ok (.iconst 0, 1) := by decide +kernel
theorem dX12_look_33 : decode cX12_look 33 = .ok (.istore 5, 2) := by decide +kernel
theorem dX12_look_35 : decode cX12_look 35 = .ok (.iload 5, 2) := by decide +kernel
theorem dX12_look_37 : decode cX12_look 37 = .ok (.aload_n 0, 1) := by decide +kernel
theorem dX12_look_38 : decode cX12_look 38 = .ok (.invokevirtual 249, 3) := by decide +kernel
theorem dX12_look_41 : decode cX12_look 41 = .ok (.if_icmp .ge 41, 3) := by decide +kernel
theorem dX12_look_44 : decode cX12_look 44 = .ok (.aload_n 0, 1) := by decide +kernel
theorem dX12_look_45 : decode cX12_look 45 = .ok (.getfield 475, 3) := by decide +kernel
theorem dX12_look_48 : decode cX12_look 48 = .ok (.ifCond .le 34, 3) := by decide +kernel
theorem dX12_look_51 : decode cX12_look 51 = .ok (.aload_n 0, 1) := by decide +kernel
theorem dX12_look_52 : decode cX12_look 52 = .ok (.iload 5, 2) := by decide +kernel
theorem dX12_look_54 : decode cX12_look 54 = .ok (.invokevirtual 487, 3) := by decide +kernel
theorem dX12_look_57 : decode cX12_look 57 = .ok (.istore 6, 2) := by decide +kernel
theorem dX12_look_59 : decode cX12_look 59 = .ok (.iload 6, 2) := by decide +kernel
theorem dX12_look_61 : decode cX12_look 61 = .ok (.iload 4, 2) := by decide +kernel
theorem dX12_look_63 : decode cX12_look 63 = .ok (.if_icmp .lt 6, 3) := by decide +kernel
theorem dX12_look_66 : decode cX12_look 66 = .ok (.goto 10, 3) := by decide +kernel
theorem dX12_look_69 : decode cX12_look 69 = .ok (.iload 5, 2) := by decide +kernel
theorem dX12_look_71 : decode cX12_look 71 = .ok (.istore_n 3, 1) := by decide +kernel
theorem dX12_look_72 : decode cX12_look 72 = .ok (.iload 6, 2) := by decide +kernel
theorem dX12_look_74 : decode cX12_look 74 = .ok (.istore 4, 2) := by decide +kernel
theorem dX12_look_76 : decode cX12_look 76 = .ok (.iinc 5 1, 3) := by decide +kernel
theorem dX12_look_79 : decode cX12_look 79 = .ok (.goto (-44), 3) := by decide +kernel
theorem dX12_look_82 : decode cX12_look 82 = .ok (.iload_n 3, 1) := by decide +kernel
theorem dX12_look_83 : decode cX12_look 83 = .ok (.ireturn, 1) := by decide +kernel
theorem dX12_isTray_0 : decode cX12_isTray 0 = .ok (.iload_n 0, 1) := by decide +kernel
theorem dX12_isTray_1 : decode cX12_isTray 1 = .ok (.i2l, 1) := by decide +kernel
theorem dX12_isTray_2 : decode cX12_isTray 2 = .ok (.lconst 0, 1) := by decide +kernel
theorem dX12_isTray_3 : decode cX12_isTray 3 = .ok (.ldc2_w 319, 3) := by decide +kernel
theorem dX12_isTray_6 : decode cX12_isTray 6 = .ok (.invokestatic 128, 3) := by decide +kernel
theorem dX12_isTray_9 : decode cX12_isTray 9 = .ok (.ireturn, 1) := by decide +kernel
theorem dX12_tray_0 : decode cX12_tray 0 = .ok (.aload_n 0, 1) := by decide +kernel
theorem dX12_tray_1 : decode cX12_tray 1 = .ok (.iload_n 1, 1) := by decide +kernel
theorem dX12_tray_2 : decode cX12_tray 2 = .ok (.invokestatic 360, 3) := by decide +kernel
theorem dX12_tray_5 : decode cX12_tray 5 = .ok (.ifCond .ne 7, 3) := by decide +kernel
theorem dX12_tray_8 : decode cX12_tray 8 = .ok (.iconst 1, 1) := by decide +kernel
theorem dX12_tray_9 : decode cX12_tray 9 = .ok (.goto 32, 3) := by decide +kernel
theorem dX12_tray_12 : decode cX12_tray 12 = .ok (.iload_n 2, 1) := by decide +kernel
theorem dX12_tray_13 : decode cX12_tray 13 = .ok (.i2l, 1) := by decide +kernel
theorem dX12_tray_14 : decode cX12_tray 14 = .ok (.lconst 0, 1) := by decide +kernel
theorem dX12_tray_15 : decode cX12_tray 15 = .ok (.ldc2_w 319, 3) := by decide +kernel
theorem dX12_tray_18 : decode cX12_tray 18 = .ok (.invokestatic 128, 3) := by decide +kernel
theorem dX12_tray_21 : decode cX12_tray 21 = .ok (.ifCond .eq 15, 3) := by decide +kernel
theorem dX12_tray_24 : decode cX12_tray 24 = .ok (.iload_n 3, 1) := by decide +kernel
theorem dX12_tray_25 : decode cX12_tray 25 = .ok (.i2l, 1) := by decide +kernel
theorem dX12_tray_26 : decode cX12_tray 26 = .ok (.lconst 0, 1) := by decide +kernel
theorem dX12_tray_27 : decode cX12_tray 27 = .ok (.ldc2_w 399, 3) := by decide +kernel
theorem dX12_tray_30 : decode cX12_tray 30 = .ok (.invokestatic 128, 3) := by decide +kernel
theorem dX12_tray_33 : decode cX12_tray 33 = .ok (.ifCond .ne 7, 3) := by decide +kernel
theorem dX12_tray_36 : decode cX12_tray 36 = .ok (.iconst 2, 1) := by decide +kernel
theorem dX12_tray_37 : decode cX12_tray 37 = .ok (.goto 4, 3) := by decide +kernel
theorem dX12_tray_40 : decode cX12_tray 40 = .ok (.iconst 0, 1) := by decide +kernel
theorem dX12_tray_41 : decode cX12_tray 41 = .ok (.putfield 67, 3) := by decide +kernel
theorem dX12_tray_44 : decode cX12_tray 44 = .ok (.aload_n 0, 1) := by decide +kernel
theorem dX12_tray_45 : decode cX12_tray 45 = .ok (.getfield 67, 3) := by decide +kernel
theorem dX12_tray_48 : decode cX12_tray 48 = .ok (.ifCond .le 4, 3) := by decide +kernel
theorem dX12_tray_51 : decode cX12_tray 51 = .ok (.return_, 1) := by decide +kernel
theorem dX12_tray_52 : decode cX12_tray 52 = .ok (.aload_n 0, 1) := by decide +kernel
theorem dX12_tray_53 : decode cX12_tray 53 = .ok (.getfield 57, 3) := by decide +kernel
theorem dX12_tray_56 : decode cX12_tray 56 = .ok (.iload_n 1, 1) := by decide +kernel
theorem dX12_tray_57 : decode cX12_tray 57 = .ok (.iload_n 2, 1) := by decide +kernel
theorem dX12_tray_58 : decode cX12_tray 58 = .ok (.iastore, 1) := by decide +kernel
theorem dX12_tray_59 : decode cX12_tray 59 = .ok (.aload_n 0, 1) := by decide +kernel
theorem dX12_tray_60 : decode cX12_tray 60 = .ok (.getfield 60, 3) := by decide +kernel
theorem dX12_tray_63 : decode cX12_tray 63 = .ok (.iload_n 1, 1) := by decide +kernel
theorem dX12_tray_64 : decode cX12_tray 64 = .ok (.iload_n 3, 1) := by decide +kernel
theorem dX12_tray_65 : decode cX12_tray 65 = .ok (.iastore, 1) := by decide +kernel
theorem dX12_tray_66 : decode cX12_tray 66 = .ok (.iconst 0, 1) := by decide +kernel
theorem dX12_tray_67 : decode cX12_tray 67 = .ok (.istore 4, 2) := by decide +kernel
theorem dX12_tray_69 : decode cX12_tray 69 = .ok (.iload 4, 2) := by decide +kernel
theorem dX12_tray_71 : decode cX12_tray 71 = .ok (.bipush 30, 2) := by decide +kernel
theorem dX12_tray_73 : decode cX12_tray 73 = .ok (.if_icmp .ge 22, 3) := by decide +kernel
theorem dX12_tray_76 : decode cX12_tray 76 = .ok (.aload_n 0, 1) := by decide +kernel
theorem dX12_tray_77 : decode cX12_tray 77 = .ok (.getfield 63, 3) := by decide +kernel
theorem dX12_tray_80 : decode cX12_tray 80 = .ok (.bipush 30, 2) := by decide +kernel
theorem dX12_tray_82 : decode cX12_tray 82 = .ok (.iload_n 1, 1) := by decide +kernel
theorem dX12_tray_83 : decode cX12_tray 83 = .ok (.imul, 1) := by decide +kernel
theorem dX12_tray_84 : decode cX12_tray 84 = .ok (.iload 4, 2) := by decide +kernel
theorem dX12_tray_86 : decode cX12_tray 86 = .ok (.iadd, 1) := by decide +kernel
theorem dX12_tray_87 : decode cX12_tray 87 = .ok (.lconst 0, 1) := by decide +kernel
theorem dX12_tray_88 : decode cX12_tray 88 = .ok (.lastore, 1) := by decide +kernel
theorem dX12_tray_89 : decode cX12_tray 89 = .ok (.iinc 4 1, 3) := by decide +kernel
theorem dX12_tray_92 : decode cX12_tray 92 = .ok (.goto (-23), 3) := by decide +kernel
theorem dX12_tray_95 : decode cX12_tray 95 = .ok (.return_, 1) := by decide +kernel
theorem dX12_cut_0 : decode cX12_cut 0 = .ok (.bipush 64, 2) := by decide +kernel
theorem dX12_cut_2 : decode cX12_cut 2 = .ok (.bipush 8, 2) := by decide +kernel
theorem dX12_cut_4 : decode cX12_cut 4 = .ok (.aload_n 0, 1) := by decide +kernel
theorem dX12_cut_5 : decode cX12_cut 5 = .ok (.getfield 57, 3) := by decide +kernel
theorem dX12_cut_8 : decode cX12_cut 8 = .ok (.iload_n 1, 1) := by decide +kernel
theorem dX12_cut_9 : decode cX12_cut 9 = .ok (.iaload, 1) := by decide +kernel
theorem dX12_cut_10 : decode cX12_cut 10 = .ok (.ishl, 1) := by decide +kernel
theorem dX12_cut_11 : decode cX12_cut 11 = .ok (.isub, 1) := by decide +kernel
theorem dX12_cut_12 : decode cX12_cut 12 = .ok (.istore 5, 2) := by decide +kernel
theorem dX12_cut_14 : decode cX12_cut 14 = .ok (.aload_n 0, 1) := by decide +kernel
theorem dX12_cut_15 : decode cX12_cut 15 = .ok (.getfield 63, 3) := by decide +kernel
theorem dX12_cut_18 : decode cX12_cut 18 = .ok (.bipush 30, 2) := by decide +kernel
theorem dX12_cut_20 : decode cX12_cut 20 = .ok (.iload_n 1, 1) := by decide +kernel
theorem dX12_cut_21 : decode cX12_cut 21 = .ok (.imul, 1) := by decide +kernel
theorem dX12_cut_22 : decode cX12_cut 22 = .ok (.iload_n 2, 1) := by decide +kernel
theorem dX12_cut_23 : decode cX12_cut 23 = .ok (.iadd, 1) := by decide +kernel
theorem dX12_cut_24 : decode cX12_cut 24 = .ok (.lload_n 3, 1) := by decide +kernel
theorem dX12_cut_25 : decode cX12_cut 25 = .ok (.iload 5, 2) := by decide +kernel
theorem dX12_cut_27 : decode cX12_cut 27 = .ok (.lshl, 1) := by decide +kernel
theorem dX12_cut_28 : decode cX12_cut 28 = .ok (.iload 5, 2) := by decide +kernel
theorem dX12_cut_30 : decode cX12_cut 30 = .ok (.lshr, 1) := by decide +kernel
theorem dX12_cut_31 : decode cX12_cut 31 = .ok (.lastore, 1) := by decide +kernel
theorem dX12_cut_32 : decode cX12_cut 32 = .ok (.aload_n 0, 1) := by decide +kernel
theorem dX12_cut_33 : decode cX12_cut 33 = .ok (.getfield 63, 3) := by decide +kernel
theorem dX12_cut_36 : decode cX12_cut 36 = .ok (.bipush 30, 2) := by decide +kernel
theorem dX12_cut_38 : decode cX12_cut 38 = .ok (.iload_n 1, 1) := by decide +kernel
theorem dX12_cut_39 : decode cX12_cut 39 = .ok (.imul, 1) := by decide +kernel
theorem dX12_cut_40 : decode cX12_cut 40 = .ok (.iload_n 2, 1) := by decide +kernel
theorem dX12_cut_41 : decode cX12_cut 41 = .ok (.iadd, 1) := by decide +kernel
theorem dX12_cut_42 : decode cX12_cut 42 = .ok (.laload, 1) := by decide +kernel
theorem dX12_cut_43 : decode cX12_cut 43 = .ok (.lreturn, 1) := by decide +kernel
theorem dX12_write_0 : decode cX12_write 0 = .ok (.aload_n 0, 1) := by decide +kernel
theorem dX12_write_1 : decode cX12_write 1 = .ok (.aload_n 0, 1) := by decide +kernel
theorem dX12_write_2 : decode cX12_write 2 = .ok (.iload_n 1, 1) := by decide +kernel
theorem dX12_write_3 : decode cX12_write 3 = .ok (.invokevirtual 377, 3) := by decide +kernel
theorem dX12_write_6 : decode cX12_write 6 = .ok (.putfield 67, 3) := by decide +kernel
theorem dX12_write_9 : decode cX12_write 9 = .ok (.aload_n 0, 1) := by decide +kernel
theorem dX12_write_10 : decode cX12_write 10 = .ok (.getfield 67, 3) := by decide +kernel
theorem dX12_write_13 : decode cX12_write 13 = .ok (.ifCond .le 5, 3) := by decide +kernel
theorem dX12_write_16 : decode cX12_write 16 = .ok (.lconst 0, 1) := by decide +kernel
theorem dX12_write_17 : decode cX12_write 17 = .ok (.lreturn, 1) := by decide +kernel
theorem dX12_write_18 : decode cX12_write 18 = .ok (.iload_n 2, 1) := by decide +kernel
theorem dX12_write_19 : decode cX12_write 19 = .ok (.i2l, 1) := by decide +kernel
theorem dX12_write_20 : decode cX12_write 20 = .ok (.lconst 0, 1) := by decide +kernel
theorem dX12_write_21 : decode cX12_write 21 = .ok (.aload_n 0, 1) := by decide +kernel
theorem dX12_write_22 : decode cX12_write 22 = .ok (.getfield 60, 3) := by decide +kernel
theorem dX12_write_25 : decode cX12_write 25 = .ok (.iload_n 1, 1) := by decide +kernel
theorem dX12_write_26 : decode cX12_write 26 = .ok (.iaload, 1) := by decide +kernel
theorem dX12_write_27 : decode cX12_write 27 = .ok (.iconst 1, 1) := by decide +kernel
theorem dX12_write_28 : decode cX12_write 28 = .ok (.isub, 1) := by decide +kernel
theorem dX12_write_29 : decode cX12_write 29 = .ok (.i2l, 1) := by decide +kernel
theorem dX12_write_30 : decode cX12_write 30 = .ok (.invokestatic 128, 3) := by decide +kernel
theorem dX12_write_33 : decode cX12_write 33 = .ok (.ifCond .eq 13, 3) := by decide +kernel
theorem dX12_write_36 : decode cX12_write 36 = .ok (.aload_n 0, 1) := by decide +kernel
theorem dX12_write_37 : decode cX12_write 37 = .ok (.iload_n 1, 1) := by decide +kernel
theorem dX12_write_38 : decode cX12_write 38 = .ok (.iload_n 2, 1) := by decide +kernel
theorem dX12_write_39 : decode cX12_write 39 = .ok (.lload_n 3, 1) := by decide +kernel
theorem dX12_write_40 : decode cX12_write 40 = .ok (.invokevirtual 490, 3) := by decide +kernel
theorem dX12_write_43 : decode cX12_write 43 = .ok (.goto 9, 3) := by decide +kernel
theorem dX12_write_46 : decode cX12_write 46 = .ok (.aload_n 0, 1) := by decide +kernel
theorem dX12_write_47 : decode cX12_write 47 = .ok (.iconst 3, 1) := by decide +kernel
theorem dX12_write_48 : decode cX12_write 48 = .ok (.invokevirtual 234, 3) := by decide +kernel
theorem dX12_write_51 : decode cX12_write 51 = .ok (.i2l, 1) := by decide +kernel
theorem dX12_write_52 : decode cX12_write 52 = .ok (.lreturn, 1) := by decide +kernel
theorem dX12_copy_0 : decode cX12_copy 0 = .ok (.aload_n 0, 1) := by decide +kernel
theorem dX12_copy_1 : decode cX12_copy 1 = .ok (.iload_n 1, 1) := by decide +kernel
theorem dX12_copy_2 : decode cX12_copy 2 = .ok (.invokestatic 360, 3) := by decide +kernel
theorem dX12_copy_5 : decode cX12_copy 5 = .ok (.ifCond .eq 12, 3) := by decide +kernel
theorem dX12_copy_8 : decode cX12_copy 8 = .ok (.aload_n 0, 1) := by decide +kernel
theorem dX12_copy_9 : decode cX12_copy 9 = .ok (.iload_n 2, 1) := by decide +kernel
theorem dX12_copy_10 : decode cX12_copy 10 = .ok (.i2l, 1) := by decide +kernel
theorem dX12_copy_11 : decode cX12_copy 11 = .ok (.invokevirtual 313, 3) := by decide +kernel
theorem dX12_copy_14 : decode cX12_copy 14 = .ok (.ifCond .ne 7, 3) := by decide +kernel
theorem dX12_copy_17 : decode cX12_copy 17 = .ok (.iconst 1, 1) := by decide +kernel
theorem dX12_copy_18 : decode cX12_copy 18 = .ok (.goto 18, 3) := by decide +kernel
theorem dX12_copy_21 : decode cX12_copy 21 = .ok (.aload_n 0, 1) := by decide +kernel
theorem dX12_copy_22 : decode cX12_copy 22 = .ok (.getfield 57, 3) := by decide +kernel
theorem dX12_copy_25 : decode cX12_copy 25 = .ok (.iload_n 1, 1) := by decide +kernel
theorem dX12_copy_26 : decode cX12_copy 26 = .ok (.iaload, 1) := by decide +kernel
theorem dX12_copy_27 : decode cX12_copy 27 = .ok (.iconst (-1), 1) := by decide +kernel
theorem dX12_copy_28 : decode cX12_copy 28 = .ok (.if_icmp .ne 7, 3) := by decide +kernel
theorem dX12_copy_31 : decode cX12_copy 31 = .ok (.iconst 2, 1) := by decide +kernel
theorem dX12_copy_32 : decode cX12_copy 32 = .ok (.goto 4, 3) := by decide +kernel
theorem dX12_copy_35 : decode cX12_copy 35 = .ok (.iconst 0, 1) := by decide +kernel
theorem dX12_copy_36 : decode cX12_copy 36 = .ok (.putfield 67, 3) := by decide +kernel
theorem dX12_copy_39 : decode cX12_copy 39 = .ok (.aload_n 0, 1) := by decide +kernel
theorem dX12_copy_40 : decode cX12_copy 40 = .ok (.getfield 67, 3) := by decide +kernel
theorem dX12_copy_43 : decode cX12_copy 43 = .ok (.ifCond .le 5, 3) := by decide +kernel
theorem dX12_copy_46 : decode cX12_copy 46 = .ok (.iconst 0, 1) := by decide +kernel
theorem dX12_copy_47 : decode cX12_copy 47 = .ok (.ireturn, 1) := by decide +kernel
theorem dX12_copy_48 : decode cX12_copy 48 = .ok (.aload_n 0, 1) := by decide +kernel
theorem dX12_copy_49 : decode cX12_copy 49 = .ok (.invokevirtual 380, 3) := by decide +kernel
theorem dX12_copy_52 : decode cX12_copy 52 = .ok (.iconst 0, 1) := by decide +kernel
theorem dX12_copy_53 : decode cX12_copy 53 = .ok (.istore_n 3, 1) := by decide +kernel
theorem dX12_copy_54 : decode cX12_copy 54 = .ok (.iload_n 3, 1) := by decide +kernel
theorem dX12_copy_55 : decode cX12_copy 55 = .ok (.aload_n 0, 1) := by decide +kernel
theorem dX12_copy_56 : decode cX12_copy 56 = .ok (.getfield 60, 3) := by decide +kernel
theorem dX12_copy_59 : decode cX12_copy 59 = .ok (.iload_n 1, 1) := by decide +kernel
theorem dX12_copy_60 : decode cX12_copy 60 = .ok (.iaload, 1) := by decide +kernel
theorem dX12_copy_61 : decode cX12_copy 61 = .ok (.if_icmp .ge 27, 3) := by decide +kernel
theorem dX12_copy_64 : decode cX12_copy 64 = .ok (.aload_n 0, 1) := by decide +kernel
theorem dX12_copy_65 : decode cX12_copy 65 = .ok (.invokevirtual 356, 3) := by decide +kernel
theorem dX12_copy_68 : decode cX12_copy 68 = .ok (.aload_n 0, 1) := by decide +kernel
theorem dX12_copy_69 : decode cX12_copy 69 = .ok (.iload_n 1, 1) := by decide +kernel
theorem dX12_copy_70 : decode cX12_copy 70 = .ok (.iload_n 3, 1) := by decide +kernel
theorem dX12_copy_71 : decode cX12_copy 71 = .ok (.aload_n 0, 1) := by decide +kernel
theorem dX12_copy_72 : decode cX12_copy 72 = .ok (.getfield 36, 3) := by decide +kernel
theorem dX12_copy_75 : decode cX12_copy 75 = .ok (.iload_n 2, 1) := by decide +kernel
theorem dX12_copy_76 : decode cX12_copy 76 = .ok (.iaload, 1) := by decide +kernel
theorem dX12_copy_77 : decode cX12_copy 77 = .ok (.i2l, 1) := by decide +kernel
theorem dX12_copy_78 : decode cX12_copy 78 = .ok (.invokevirtual 490, 3) := by decide +kernel
theorem dX12_copy_81 : decode cX12_copy 81 = .ok (.pop2, 1) := by decide +kernel
theorem dX12_copy_82 : decode cX12_copy 82 = .ok (.iinc 3 1, 3) := by decide +kernel
theorem dX12_copy_85 : decode cX12_copy 85 = .ok (.goto (-31), 3) := by decide +kernel
theorem dX12_copy_88 : decode cX12_copy 88 = .ok (.aload_n 0, 1) := by decide +kernel
theorem dX12_copy_89 : decode cX12_copy 89 = .ok (.invokevirtual 392, 3) := by decide +kernel
theorem dX12_copy_92 : decode cX12_copy 92 = .ok (.aload_n 0, 1) := by decide +kernel
theorem dX12_copy_93 : decode cX12_copy 93 = .ok (.getfield 60, 3) := by decide +kernel
theorem dX12_copy_96 : decode cX12_copy 96 = .ok (.iload_n 1, 1) := by decide +kernel
theorem dX12_copy_97 : decode cX12_copy 97 = .ok (.iaload, 1) := by decide +kernel
theorem dX12_copy_98 : decode cX12_copy 98 = .ok (.ireturn, 1) := by decide +kernel
theorem dX12_image_0 : decode cX12_image 0 = .ok (.aload_n 0, 1) := by decide +kernel
theorem dX12_image_1 : decode cX12_image 1 = .ok (.iload_n 1, 1) := by decide +kernel
theorem dX12_image_2 : decode cX12_image 2 = .ok (.i2l, 1) := by decide +kernel
theorem dX12_image_3 : decode cX12_image 3 = .ok (.lconst 0, 1) := by decide +kernel
theorem dX12_image_4 : decode cX12_image 4 = .ok (.ldc2_w 317, 3) := by decide +kernel
theorem dX12_image_7 : decode cX12_image 7 = .ok (.invokestatic 128, 3) := by decide +kernel
theorem dX12_image_10 : decode cX12_image 10 = .ok (.ifCond .eq 7, 3) := by decide +kernel
theorem dX12_image_13 : decode cX12_image 13 = .ok (.iconst 0, 1) := by decide +kernel
theorem dX12_image_14 : decode cX12_image 14 = .ok (.goto 4, 3) := by decide +kernel
theorem dX12_image_17 : decode cX12_image 17 = .ok (.iconst 1, 1) := by decide +kernel
theorem dX12_image_18 : decode cX12_image 18 = .ok (.putfield 67, 3) := by decide +kernel
theorem dX12_image_21 : decode cX12_image 21 = .ok (.aload_n 0, 1) := by decide +kernel
theorem dX12_image_22 : decode cX12_image 22 = .ok (.getfield 67, 3) := by decide +kernel
theorem dX12_image_25 : decode cX12_image 25 = .ok (.ifCond .le 4, 3) := by decide +kernel
theorem dX12_image_28 : decode cX12_image 28 = .ok (.return_, 1) := by decide +kernel
theorem dX12_image_29 : decode cX12_image 29 = .ok (.aload_n 0, 1) := by decide +kernel
theorem dX12_image_30 : decode cX12_image 30 = .ok (.getfield 19, 3) := by decide +kernel
theorem dX12_image_33 : decode cX12_image 33 = .ok (.iload_n 1, 1) := by decide +kernel
theorem dX12_image_34 : decode cX12_image 34 = .ok (.iconst 1, 1) := by decide +kernel
theorem dX12_image_35 : decode cX12_image 35 = .ok (.bastore, 1) := by decide +kernel
theorem dX12_image_36 : decode cX12_image 36 = .ok (.iconst 0, 1) := by decide +kernel
theorem dX12_image_37 : decode cX12_image 37 = .ok (.istore_n 2, 1) := by decide +kernel
theorem dX12_image_38 : decode cX12_image 38 = .ok (.iload_n 2, 1) := by decide +kernel
theorem dX12_image_39 : decode cX12_image 39 = .ok (.sipush 3240, 3) := by decide +kernel
theorem dX12_image_42 : decode cX12_image 42 = .ok (.if_icmp .ge 27, 3) := by decide +kernel
theorem dX12_image_45 : decode cX12_image 45 = .ok (.aload_n 0, 1) := by decide +kernel
theorem dX12_image_46 : decode cX12_image 46 = .ok (.getfield 16, 3) := by decide +kernel
theorem dX12_image_49 : decode cX12_image 49 = .ok (.sipush 3240, 3) := by decide +kernel
theorem dX12_image_52 : decode cX12_image 52 = .ok (.iload_n 1, 1) := by decide +kernel
theorem dX12_image_53 : decode cX12_image 53 = .ok (.imul, 1) := by decide +kernel
theorem dX12_image_54 : decode cX12_image 54 = .ok (.iload_n 2, 1) := by decide +kernel
theorem dX12_image_55 : decode cX12_image 55 = .ok (.iadd, 1) := by decide +kernel
theorem dX12_image_56 : decode cX12_image 56 = .ok (.aload_n 0, 1) := by decide +kernel
theorem dX12_image_57 : decode cX12_image 57 = .ok (.getfield 9, 3) := by decide +kernel
theorem dX12_image_60 : decode cX12_image 60 = .ok (.iload_n 2, 1) := by decide +kernel
theorem dX12_image_61 : decode cX12_image 61 = .ok (.iaload, 1) := by decide +kernel
theorem dX12_image_62 : decode cX12_image 62 = .ok (.iastore, 1) := by decide +kernel
theorem dX12_image_63 : decode cX12_image 63 = .ok (.iinc 2 1, 3) := by decide +kernel
theorem dX12_image_66 : decode cX12_image 66 = .ok (.goto (-28), 3) := by decide +kernel
theorem dX12_image_69 : decode cX12_image 69 = .ok (.return_, 1) := by decide +kernel
theorem dX12_restore_0 : decode cX12_restore 0 = .ok (.aload_n 0, 1) := by decide +kernel
theorem dX12_restore_1 : decode cX12_restore 1 = .ok (.iload_n 1, 1) := by decide +kernel
theorem dX12_restore_2 : decode cX12_restore 2 = .ok (.i2l, 1) := by decide +kernel
theorem dX12_restore_3 : decode cX12_restore 3 = .ok (.lconst 0, 1) := by decide +kernel
theorem dX12_restore_4 : decode cX12_restore 4 = .ok (.ldc2_w 317, 3) := by decide +kernel
theorem dX12_restore_7 : decode cX12_restore 7 = .ok (.invokestatic 128, 3) := by decide +kernel
theorem dX12_restore_10 : decode cX12_restore 10 = .ok (.ifCond .ne 7, 3) := by decide +kernel
theorem dX12_restore_13 : decode cX12_restore 13 = .ok (.iconst 1, 1) := by decide +kernel
theorem dX12_restore_14 : decode cX12_restore 14 = .ok (.goto 17, 3) := by decide +kernel
theorem dX12_restore_17 : decode cX12_restore 17 = .ok (.aload_n 0, 1) := by decide +kernel
theorem dX12_restore_18 : decode cX12_restore 18 = .ok (.getfield 19, 3) := by decide +kernel
theorem dX12_restore_21 : decode cX12_restore 21 = .ok (.iload_n 1, 1) := by decide +kernel
theorem dX12_restore_22 : decode cX12_restore 22 = .ok (.baload, 1) := by decide +kernel
theorem dX12_restore_23 : decode cX12_restore 23 = .ok (.ifCond .ne 7, 3) := by decide +kernel
theorem dX12_restore_26 : decode cX12_restore 26 = .ok (.iconst 2, 1) := by decide +kernel
theorem dX12_restore_27 : decode cX12_restore 27 = .ok (.goto 4, 3) := by decide +kernel
theorem dX12_restore_30 : decode cX12_restore 30 = .ok (.iconst 0, 1) := by decide +kernel
theorem dX12_restore_31 : decode cX12_restore 31 = .ok (.putfield 67, 3) := by decide +kernel
theorem dX12_restore_34 : decode cX12_restore 34 = .ok (.aload_n 0, 1) := by decide +kernel
theorem dX12_restore_35 : decode cX12_restore 35 = .ok (.getfield 67, 3) := by decide +kernel
theorem dX12_restore_38 : decode cX12_restore 38 = .ok (.ifCond .le 4, 3) := by decide +kernel
theorem dX12_restore_41 : decode cX12_restore 41 = .ok (.return_, 1) := by decide +kernel
theorem dX12_restore_42 : decode cX12_restore 42 = .ok (.iconst 0, 1) := by decide +kernel
theorem dX12_restore_43 : decode cX12_restore 43 = .ok (.istore_n 2, 1) := by decide +kernel
theorem dX12_restore_44 : decode cX12_restore 44 = .ok (.iload_n 2, 1) := by decide +kernel
theorem dX12_restore_45 : decode cX12_restore 45 = .ok (.sipush 3240, 3) := by decide +kernel
theorem dX12_restore_48 : decode cX12_restore 48 = .ok (.if_icmp .ge 27, 3) := by decide +kernel
theorem dX12_restore_51 : decode cX12_restore 51 = .ok (.aload_n 0, 1) := by decide +kernel
theorem dX12_restore_52 : decode cX12_restore 52 = .ok (.getfield 9, 3) := by decide +kernel
theorem dX12_restore_55 : decode cX12_restore 55 = .ok (.iload_n 2, 1) := by decide +kernel
theorem dX12_restore_56 : decode cX12_restore 56 = .ok (.aload_n 0, 1) := by decide +kernel
theorem dX12_restore_57 : decode cX12_restore 57 = .ok (.getfield 16, 3) := by decide +kernel
theorem dX12_restore_60 : decode cX12_restore 60 = .ok (.sipush 3240, 3) := by decide +kernel
theorem dX12_restore_63 : decode cX12_restore 63 = .ok (.iload_n 1, 1) := by decide +kernel
theorem dX12_restore_64 : decode cX12_restore 64 = .ok (.imul, 1) := by decide +kernel
theorem dX12_restore_65 : decode cX12_restore 65 = .ok (.iload_n 2, 1) := by decide +kernel
theorem dX12_restore_66 : decode cX12_restore 66 = .ok (.iadd, 1) := by decide +kernel
theorem dX12_restore_67 : decode cX12_restore 67 = .ok (.iaload, 1) := by decide +kernel
theorem dX12_restore_68 : decode cX12_restore 68 = .ok (.iastore, 1) := by decide +kernel
theorem dX12_restore_69 : decode cX12_restore 69 = .ok (.iinc 2 1, 3) := by decide +kernel
theorem dX12_restore_72 : decode cX12_restore 72 = .ok (.goto (-28), 3) := by decide +kernel
theorem dX12_restore_75 : decode cX12_restore 75 = .ok (.return_, 1) := by decide +kernel
theorem dX12_count_0 : decode cX12_count 0 = .ok (.aload_n 0, 1) := by decide +kernel
theorem dX12_count_1 : decode cX12_count 1 = .ok (.iconst 0, 1) := by decide +kernel
theorem dX12_count_2 : decode cX12_count 2 = .ok (.putfield 67, 3) := by decide +kernel
theorem dX12_count_5 : decode cX12_count 5 = .ok (.iload_n 1, 1) := by decide +kernel
theorem dX12_count_6 : decode cX12_count 6 = .ok (.tableswitch 134 0 10 #[58, 65, 70, 77, 84, 91, 99, 106, 114, 121, 129], 58) := by decide +kernel
theorem dX12_count_64 : decode cX12_count 64 = .ok (.aload_n 0, 1) := by decide +kernel
theorem dX12_count_65 : decode cX12_count 65 = .ok (.getfield 9, 3) := by decide +kernel
theorem dX12_count_68 : decode cX12_count 68 = .ok (.iconst 0, 1) := by decide +kernel
theorem dX12_count_69 : decode cX12_count 69 = .ok (.iaload, 1) := by decide +kernel
theorem dX12_count_70 : decode cX12_count 70 = .ok (.ireturn, 1) := by decide +kernel
theorem dX12_count_71 : decode cX12_count 71 = .ok (.aload_n 0, 1) := by decide +kernel
theorem dX12_count_72 : decode cX12_count 72 = .ok (.invokevirtual 249, 3) := by decide +kernel
theorem dX12_count_75 : decode cX12_count 75 = .ok (.ireturn, 1) := by decide +kernel
theorem dX12_count_76 : decode cX12_count 76 = .ok (.aload_n 0, 1) := by decide +kernel
theorem dX12_count_77 : decode cX12_count 77 = .ok (.bipush 29, 2) := by decide +kernel
theorem dX12_count_79 : decode cX12_count 79 = .ok (.invokevirtual 389, 3) := by decide +kernel
theorem dX12_count_82 : decode cX12_count 82 = .ok (.ireturn, 1) := by decide +kernel
theorem dX12_count_83 : decode cX12_count 83 = .ok (.aload_n 0, 1) := by decide +kernel
theorem dX12_count_84 : decode cX12_count 84 = .ok (.bipush 36, 2) := by decide +kernel
theorem dX12_count_86 : decode cX12_count 86 = .ok (.invokevirtual 389, 3) := by decide +kernel
theorem dX12_count_89 : decode cX12_count 89 = .ok (.ireturn, 1) := by decide +kernel
theorem dX12_count_90 : decode cX12_count 90 = .ok (.aload_n 0, 1) := by decide +kernel
theorem dX12_count_91 : decode cX12_count 91 = .ok (.bipush 22, 2) := by decide +kernel
theorem dX12_count_93 : decode cX12_count 93 = .ok (.invokevirtual 389, 3) := by decide +kernel
theorem dX12_count_96 : decode cX12_count 96 = .ok (.ireturn, 1) := by decide +kernel
theorem dX12_count_97 : decode cX12_count 97 = .ok (.aload_n 0, 1) := by decide +kernel
theorem dX12_count_98 : decode cX12_count 98 = .ok (.getfield 9, 3) := by decide +kernel
theorem dX12_count_101 : decode cX12_count 101 = .ok (.bipush 50, 2) := by decide +kernel
theorem dX12_count_103 : decode cX12_count 103 = .ok (.iaload, 1) := by decide +kernel
theorem dX12_count_104 : decode cX12_count 104 = .ok (.ireturn, 1) := by decide +kernel
theorem dX12_count_105 : decode cX12_count 105 = .ok (.aload_n 0, 1) := by decide +kernel
theorem dX12_count_106 : decode cX12_count 106 = .ok (.getfield 9, 3) := by decide +kernel
theorem dX12_count_109 : decode cX12_count 109 = .ok (.iconst 3, 1) := by decide +kernel
theorem dX12_count_110 : decode cX12_count 110 = .ok (.iaload, 1) := by decide +kernel
theorem dX12_count_111 : decode cX12_count 111 = .ok (.ireturn, 1) := by decide +kernel
theorem dX12_count_112 : decode cX12_count 112 = .ok (.aload_n 0, 1) := by decide +kernel
theorem dX12_count_113 : decode cX12_count 113 = .ok (.getfield 9, 3) := by decide +kernel
theorem dX12_count_116 : decode cX12_count 116 = .ok (.bipush 51, 2) := by decide +kernel
theorem dX12_count_118 : decode cX12_count 118 = .ok (.iaload, 1) := by decide +kernel
theorem dX12_count_119 : decode cX12_count 119 = .ok (.ireturn, 1) := by decide +kernel
theorem dX12_count_120 : decode cX12_count 120 = .ok (.aload_n 0, 1) := by decide +kernel
theorem dX12_count_121 : decode cX12_count 121 = .ok (.getfield 9, 3) := by decide +kernel
theorem dX12_count_124 : decode cX12_count 124 = .ok (.iconst 2, 1) := by decide +kernel
theorem dX12_count_125 : decode cX12_count 125 = .ok (.iaload, 1) := by decide +kernel
theorem dX12_count_126 : decode cX12_count 126 = .ok (.ireturn, 1) := by decide +kernel
theorem dX12_count_127 : decode cX12_count 127 = .ok (.aload_n 0, 1) := by decide +kernel
theorem dX12_count_128 : decode cX12_count 128 = .ok (.getfield 9, 3) := by decide +kernel
theorem dX12_count_131 : decode cX12_count 131 = .ok (.bipush 7, 2) := by decide +kernel
theorem dX12_count_133 : decode cX12_count 133 = .ok (.iaload, 1) := by decide +kernel
theorem dX12_count_134 : decode cX12_count 134 = .ok (.ireturn, 1) := by decide +kernel
theorem dX12_count_135 : decode cX12_count 135 = .ok (.aload_n 0, 1) := by decide +kernel
theorem dX12_count_136 : decode cX12_count 136 = .ok (.getfield 70, 3) := by decide +kernel
theorem dX12_count_139 : decode cX12_count 139 = .ok (.ireturn, 1) := by decide +kernel
theorem dX12_count_140 : decode cX12_count 140 = .ok (.iconst (-1), 1) := by decide +kernel
theorem dX12_count_141 : decode cX12_count 141 = .ok (.ireturn, 1) := by decide +kernel
