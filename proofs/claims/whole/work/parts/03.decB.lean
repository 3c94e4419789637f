theorem dX11_init_0 : decode cX11_init 0 = .ok (.aload_n 0, 1) := by decide +kernel
theorem dX11_init_1 : decode cX11_init 1 = .ok (.invokespecial 1, 3) := by decide +kernel
theorem dX11_init_4 : decode cX11_init 4 = .ok (.aload_n 0, 1) := by decide +kernel
theorem dX11_init_5 : decode cX11_init 5 = .ok (.sipush 900, 3) := by decide +kernel
theorem dX11_init_8 : decode cX11_init 8 = .ok (.newarray .byte, 2) := by decide +kernel
theorem dX11_init_10 : decode cX11_init 10 = .ok (.putfield 9, 3) := by decide +kernel
theorem dX11_init_13 : decode cX11_init 13 = .ok (.aload_n 0, 1) := by decide +kernel
theorem dX11_init_14 : decode cX11_init 14 = .ok (.iconst (-1), 1) := by decide +kernel
theorem dX11_init_15 : decode cX11_init 15 = .ok (.putfield 13, 3) := by decide +kernel
theorem dX11_init_18 : decode cX11_init 18 = .ok (.aload_n 0, 1) := by decide +kernel
theorem dX11_init_19 : decode cX11_init 19 = .ok (.new 17, 3) := by decide +kernel
theorem dX11_init_22 : decode cX11_init 22 = .ok (.dup, 1) := by decide +kernel
theorem dX11_init_23 : decode cX11_init 23 = .ok (.invokespecial 19, 3) := by decide +kernel
theorem dX11_init_26 : decode cX11_init 26 = .ok (.putfield 20, 3) := by decide +kernel
theorem dX11_init_29 : decode cX11_init 29 = .ok (.aload_n 0, 1) := by decide +kernel
theorem dX11_init_30 : decode cX11_init 30 = .ok (.new 24, 3) := by decide +kernel
theorem dX11_init_33 : decode cX11_init 33 = .ok (.dup, 1) := by decide +kernel
theorem dX11_init_34 : decode cX11_init 34 = .ok (.invokespecial 26, 3) := by decide +kernel
theorem dX11_init_37 : decode cX11_init 37 = .ok (.putfield 27, 3) := by decide +kernel
theorem dX11_init_40 : decode cX11_init 40 = .ok (.aload_n 0, 1) := by decide +kernel
theorem dX11_init_41 : decode cX11_init 41 = .ok (.new 31, 3) := by decide +kernel
theorem dX11_init_44 : decode cX11_init 44 = .ok (.dup, 1) := by decide +kernel
theorem dX11_init_45 : decode cX11_init 45 = .ok (.invokespecial 33, 3) := by decide +kernel
theorem dX11_init_48 : decode cX11_init 48 = .ok (.putfield 34, 3) := by decide +kernel
theorem dX11_init_51 : decode cX11_init 51 = .ok (.aload_n 0, 1) := by decide +kernel
theorem dX11_init_52 : decode cX11_init 52 = .ok (.new 38, 3) := by decide +kernel
theorem dX11_init_55 : decode cX11_init 55 = .ok (.dup, 1) := by decide +kernel
theorem dX11_init_56 : decode cX11_init 56 = .ok (.invokespecial 40, 3) := by decide +kernel
theorem dX11_init_59 : decode cX11_init 59 = .ok (.putfield 41, 3) := by decide +kernel
theorem dX11_init_62 : decode cX11_init 62 = .ok (.aload_n 0, 1) := by decide +kernel
theorem dX11_init_63 : decode cX11_init 63 = .ok (.iconst 3, 1) := by decide +kernel
theorem dX11_init_64 : decode cX11_init 64 = .ok (.anewarray 45, 3) := by decide +kernel
theorem dX11_init_67 : decode cX11_init 67 = .ok (.putfield 47, 3) := by decide +kernel
theorem dX11_init_70 : decode cX11_init 70 = .ok (.iconst 0, 1) := by decide +kernel
theorem dX11_init_71 : decode cX11_init 71 = .ok (.istore_n 1, 1) := by decide +kernel
theorem dX11_init_72 : decode cX11_init 72 = .ok (.iload_n 1, 1) := by decide +kernel
theorem dX11_init_73 : decode cX11_init 73 = .ok (.aload_n 0, 1) := by decide +kernel
theorem dX11_init_74 : decode cX11_init 74 = .ok (.getfield 47, 3) := by decide +kernel
theorem dX11_init_77 : decode cX11_init 77 = .ok (.arraylength, 1) := by decide +kernel
theorem dX11_init_78 : decode cX11_init 78 = .ok (.if_icmp .ge 22, 3) := by decide +kernel
theorem dX11_init_81 : decode cX11_init 81 = .ok (.aload_n 0, 1) := by decide +kernel
theorem dX11_init_82 : decode cX11_init 82 = .ok (.getfield 47, 3) := by decide +kernel
theorem dX11_init_85 : decode cX11_init 85 = .ok (.iload_n 1, 1) := by decide +kernel
theorem dX11_init_86 : decode cX11_init 86 = .ok (.new 45, 3) := by decide +kernel
theorem dX11_init_89 : decode cX11_init 89 = .ok (.dup, 1) := by decide +kernel
theorem dX11_init_90 : decode cX11_init 90 = .ok (.invokespecial 51, 3) := by decide +kernel
theorem dX11_init_93 : decode cX11_init 93 = .ok (.aastore, 1) := by decide +kernel
theorem dX11_init_94 : decode cX11_init 94 = .ok (.iinc 1 1, 3) := by decide +kernel
theorem dX11_init_97 : decode cX11_init 97 = .ok (.goto (-25), 3) := by decide +kernel
theorem dX11_init_100 : decode cX11_init 100 = .ok (.aload_n 0, 1) := by decide +kernel
theorem dX11_init_101 : decode cX11_init 101 = .ok (.iconst 4, 1) := by decide +kernel
theorem dX11_init_102 : decode cX11_init 102 = .ok (.anewarray 52, 3) := by decide +kernel
theorem dX11_init_105 : decode cX11_init 105 = .ok (.putfield 54, 3) := by decide +kernel
theorem dX11_init_108 : decode cX11_init 108 = .ok (.iconst 0, 1) := by decide +kernel
theorem dX11_init_109 : decode cX11_init 109 = .ok (.istore_n 1, 1) := by decide +kernel
theorem dX11_init_110 : decode cX11_init 110 = .ok (.iload_n 1, 1) := by decide +kernel
theorem dX11_init_111 : decode cX11_init 111 = .ok (.aload_n 0, 1) := by decide +kernel
theorem dX11_init_112 : decode cX11_init 112 = .ok (.getfield 54, 3) := by decide +kernel
theorem dX11_init_115 : decode cX11_init 115 = .ok (.arraylength, 1) := by decide +kernel
theorem dX11_init_116 : decode cX11_init 116 = .ok (.if_icmp .ge 22, 3) := by decide +kernel
theorem dX11_init_119 : decode cX11_init 119 = .ok (.aload_n 0, 1) := by decide +kernel
theorem dX11_init_120 : decode cX11_init 120 = .ok (.getfield 54, 3) := by decide +kernel
theorem dX11_init_123 : decode cX11_init 123 = .ok (.iload_n 1, 1) := by decide +kernel
theorem dX11_init_124 : decode cX11_init 124 = .ok (.new 52, 3) := by decide +kernel
theorem dX11_init_127 : decode cX11_init 127 = .ok (.dup, 1) := by decide +kernel
theorem dX11_init_128 : decode cX11_init 128 = .ok (.invokespecial 58, 3) := by decide +kernel
theorem dX11_init_131 : decode cX11_init 131 = .ok (.aastore, 1) := by decide +kernel
theorem dX11_init_132 : decode cX11_init 132 = .ok (.iinc 1 1, 3) := by decide +kernel
theorem dX11_init_135 : decode cX11_init 135 = .ok (.goto (-25), 3) := by decide +kernel
theorem dX11_init_138 : decode cX11_init 138 = .ok (.aload_n 0, 1) := by decide +kernel
theorem dX11_init_139 : decode cX11_init 139 = .ok (.new 59, 3) := by decide +kernel
theorem dX11_init_142 : decode cX11_init 142 = .ok (.dup, 1) := by decide +kernel
theorem dX11_init_143 : decode cX11_init 143 = .ok (.invokespecial 61, 3) := by decide +kernel
theorem dX11_init_146 : decode cX11_init 146 = .ok (.putfield 62, 3) := by decide +kernel
theorem dX11_init_149 : decode cX11_init 149 = .ok (.aload_n 0, 1) := by decide +kernel
theorem dX11_init_150 : decode cX11_init 150 = .ok (.new 66, 3) := by decide +kernel
theorem dX11_init_153 : decode cX11_init 153 = .ok (.dup, 1) := by decide +kernel
theorem dX11_init_154 : decode cX11_init 154 = .ok (.invokespecial 68, 3) := by decide +kernel
theorem dX11_init_157 : decode cX11_init 157 = .ok (.putfield 69, 3) := by decide +kernel
theorem dX11_init_160 : decode cX11_init 160 = .ok (.aload_n 0, 1) := by decide +kernel
theorem dX11_init_161 : decode cX11_init 161 = .ok (.new 73, 3) := by decide +kernel
theorem dX11_init_164 : decode cX11_init 164 = .ok (.dup, 1) := by decide +kernel
theorem dX11_init_165 : decode cX11_init 165 = .ok (.invokespecial 75, 3) := by decide +kernel
theorem dX11_init_168 : decode cX11_init 168 = .ok (.putfield 76, 3) := by decide +kernel
theorem dX11_init_171 : decode cX11_init 171 = .ok (.return_, 1) := by decide +kernel
theorem dX11_feed_0 : decode cX11_feed 0 = .ok (.aload_n 0, 1) := by decide +kernel
theorem dX11_feed_1 : decode cX11_feed 1 = .ok (.getfield 80, 3) := by decide +kernel
theorem dX11_feed_4 : decode cX11_feed 4 = .ok (.bipush 20, 2) := by decide +kernel
theorem dX11_feed_6 : decode cX11_feed 6 = .ok (.iadd, 1) := by decide +kernel
theorem dX11_feed_7 : decode cX11_feed 7 = .ok (.aload_n 0, 1) := by decide +kernel
theorem dX11_feed_8 : decode cX11_feed 8 = .ok (.getfield 9, 3) := by decide +kernel
theorem dX11_feed_11 : decode cX11_feed 11 = .ok (.arraylength, 1) := by decide +kernel
theorem dX11_feed_12 : decode cX11_feed 12 = .ok (.if_icmp .le 5, 3) := by decide +kernel
theorem dX11_feed_15 : decode cX11_feed 15 = .ok (.iconst (-1), 1) := by decide +kernel
theorem dX11_feed_16 : decode cX11_feed 16 = .ok (.ireturn, 1) := by decide +kernel
theorem dX11_feed_17 : decode cX11_feed 17 = .ok (.aload_n 0, 1) := by decide +kernel
theorem dX11_feed_18 : decode cX11_feed 18 = .ok (.iload_n 1, 1) := by decide +kernel
theorem dX11_feed_19 : decode cX11_feed 19 = .ok (.invokevirtual 83, 3) := by decide +kernel
theorem dX11_feed_22 : decode cX11_feed 22 = .ok (.aload_n 0, 1) := by decide +kernel
theorem dX11_feed_23 : decode cX11_feed 23 = .ok (.iload_n 2, 1) := by decide +kernel
theorem dX11_feed_24 : decode cX11_feed 24 = .ok (.invokevirtual 83, 3) := by decide +kernel
theorem dX11_feed_27 : decode cX11_feed 27 = .ok (.aload_n 0, 1) := by decide +kernel
theorem dX11_feed_28 : decode cX11_feed 28 = .ok (.iload_n 3, 1) := by decide +kernel
theorem dX11_feed_29 : decode cX11_feed 29 = .ok (.invokevirtual 83, 3) := by decide +kernel
theorem dX11_feed_32 : decode cX11_feed 32 = .ok (.aload_n 0, 1) := by decide +kernel
theorem dX11_feed_33 : decode cX11_feed 33 = .ok (.iload 4, 2) := by decide +kernel
theorem dX11_feed_35 : decode cX11_feed 35 = .ok (.invokevirtual 83, 3) := by decide +kernel
theorem dX11_feed_38 : decode cX11_feed 38 = .ok (.aload_n 0, 1) := by decide +kernel
theorem dX11_feed_39 : decode cX11_feed 39 = .ok (.iload 5, 2) := by decide +kernel
theorem dX11_feed_41 : decode cX11_feed 41 = .ok (.invokevirtual 83, 3) := by decide +kernel
theorem dX11_feed_44 : decode cX11_feed 44 = .ok (.aload_n 0, 1) := by decide +kernel
theorem dX11_feed_45 : decode cX11_feed 45 = .ok (.getfield 80, 3) := by decide +kernel
theorem dX11_feed_48 : decode cX11_feed 48 = .ok (.ireturn, 1) := by decide +kernel
theorem dX11_feedInt_0 : decode cX11_feedInt 0 = .ok (.bipush 24, 2) := by decide +kernel
theorem dX11_feedInt_2 : decode cX11_feedInt 2 = .ok (.istore_n 2, 1) := by decide +kernel
theorem dX11_feedInt_3 : decode cX11_feedInt 3 = .ok (.iload_n 2, 1) := by decide +kernel
theorem dX11_feedInt_4 : decode cX11_feedInt 4 = .ok (.ifCond .lt 44, 3) := by decide +kernel
theorem dX11_feedInt_7 : decode cX11_feedInt 7 = .ok (.aload_n 0, 1) := by decide +kernel
theorem dX11_feedInt_8 : decode cX11_feedInt 8 = .ok (.getfield 80, 3) := by decide +kernel
theorem dX11_feedInt_11 : decode cX11_feedInt 11 = .ok (.aload_n 0, 1) := by decide +kernel
theorem dX11_feedInt_12 : decode cX11_feedInt 12 = .ok (.getfield 9, 3) := by decide +kernel
theorem dX11_feedInt_15 : decode cX11_feedInt 15 = .ok (.arraylength, 1) := by decide +kernel
theorem dX11_feedInt_16 : decode cX11_feedInt 16 = .ok (.if_icmp .ge 32, 3) := by decide +kernel
theorem dX11_feedInt_19 : decode cX11_feedInt 19 = .ok (.aload_n 0, 1) := by decide +kernel
theorem dX11_feedInt_20 : decode cX11_feedInt 20 = .ok (.getfield 9, 3) := by decide +kernel
theorem dX11_feedInt_23 : decode cX11_feedInt 23 = .ok (.aload_n 0, 1) := by decide +kernel
theorem dX11_feedInt_24 : decode cX11_feedInt 24 = .ok (.getfield 80, 3) := by decide +kernel
theorem dX11_feedInt_27 : decode cX11_feedInt 27 = .ok (.iload_n 1, 1) := by decide +kernel
theorem dX11_feedInt_28 : decode cX11_feedInt 28 = .ok (.iload_n 2, 1) := by decide +kernel
theorem dX11_feedInt_29 : decode cX11_feedInt 29 = .ok (.ishr, 1) := by decide +kernel
theorem dX11_feedInt_30 : decode cX11_feedInt 30 = .ok (.i2b, 1) := by decide +kernel
theorem dX11_feedInt_31 : decode cX11_feedInt 31 = .ok (.bastore, 1) := by decide +kernel
theorem dX11_feedInt_32 : decode cX11_feedInt 32 = .ok (.aload_n 0, 1) := by decide +kernel
theorem dX11_feedInt_33 : decode cX11_feedInt 33 = .ok (.dup, 1) := by decide +kernel
theorem dX11_feedInt_34 : decode cX11_feedInt 34 = .ok (.getfield 80, 3) := by decide +kernel
theorem dX11_feedInt_37 : decode cX11_feedInt 37 = .ok (.iconst 1, 1) := by decide +kernel
theorem dX11_feedInt_38 : decode cX11_feedInt 38 = .ok (.iadd, 1) := by decide +kernel
theorem dX11_feedInt_39 : decode cX11_feedInt 39 = .ok (.putfield 80, 3) := by decide +kernel
theorem dX11_feedInt_42 : decode cX11_feedInt 42 = .ok (.iinc 2 (-8), 3) := by decide +kernel
theorem dX11_feedInt_45 : decode cX11_feedInt 45 = .ok (.goto (-42), 3) := by decide +kernel
theorem dX11_feedInt_48 : decode cX11_feedInt 48 = .ok (.return_, 1) := by decide +kernel
theorem dX11_street_0 : decode cX11_street 0 = .ok (.iload_n 1, 1) := by decide +kernel
theorem dX11_street_1 : decode cX11_street 1 = .ok (.ifCond .lt 11, 3) := by decide +kernel
theorem dX11_street_4 : decode cX11_street 4 = .ok (.iload_n 1, 1) := by decide +kernel
theorem dX11_street_5 : decode cX11_street 5 = .ok (.aload_n 0, 1) := by decide +kernel
theorem dX11_street_6 : decode cX11_street 6 = .ok (.getfield 80, 3) := by decide +kernel
theorem dX11_street_9 : decode cX11_street 9 = .ok (.if_icmp .le 13, 3) := by decide +kernel
theorem dX11_street_12 : decode cX11_street 12 = .ok (.new 87, 3) := by decide +kernel
theorem dX11_street_15 : decode cX11_street 15 = .ok (.dup, 1) := by decide +kernel
theorem dX11_street_16 : decode cX11_street 16 = .ok (.ldc 89, 2) := by decide +kernel
theorem dX11_street_18 : decode cX11_street 18 = .ok (.invokespecial 91, 3) := by decide +kernel
theorem dX11_street_21 : decode cX11_street 21 = .ok (.athrow, 1) := by decide +kernel
theorem dX11_street_22 : decode cX11_street 22 = .ok (.aload_n 0, 1) := by decide +kernel
theorem dX11_street_23 : decode cX11_street 23 = .ok (.getfield 27, 3) := by decide +kernel
theorem dX11_street_26 : decode cX11_street 26 = .ok (.aload_n 0, 1) := by decide +kernel
theorem dX11_street_27 : decode cX11_street 27 = .ok (.getfield 9, 3) := by decide +kernel
theorem dX11_street_30 : decode cX11_street 30 = .ok (.iload_n 1, 1) := by decide +kernel
theorem dX11_street_31 : decode cX11_street 31 = .ok (.invokevirtual 94, 3) := by decide +kernel
theorem dX11_street_34 : decode cX11_street 34 = .ok (.istore_n 2, 1) := by decide +kernel
theorem dX11_street_35 : decode cX11_street 35 = .ok (.aload_n 0, 1) := by decide +kernel
theorem dX11_street_36 : decode cX11_street 36 = .ok (.iconst 0, 1) := by decide +kernel
theorem dX11_street_37 : decode cX11_street 37 = .ok (.putfield 80, 3) := by decide +kernel
theorem dX11_street_40 : decode cX11_street 40 = .ok (.aload_n 0, 1) := by decide +kernel
theorem dX11_street_41 : decode cX11_street 41 = .ok (.aload_n 0, 1) := by decide +kernel
theorem dX11_street_42 : decode cX11_street 42 = .ok (.getfield 27, 3) := by decide +kernel
theorem dX11_street_45 : decode cX11_street 45 = .ok (.getfield 98, 3) := by decide +kernel
theorem dX11_street_48 : decode cX11_street 48 = .ok (.putfield 101, 3) := by decide +kernel
theorem dX11_street_51 : decode cX11_street 51 = .ok (.aload_n 0, 1) := by decide +kernel
theorem dX11_street_52 : decode cX11_street 52 = .ok (.aload_n 0, 1) := by decide +kernel
theorem dX11_street_53 : decode cX11_street 53 = .ok (.getfield 27, 3) := by decide +kernel
theorem dX11_street_56 : decode cX11_street 56 = .ok (.getfield 104, 3) := by decide +kernel
theorem dX11_street_59 : decode cX11_street 59 = .ok (.putfield 13, 3) := by decide +kernel
theorem dX11_street_62 : decode cX11_street 62 = .ok (.iload_n 2, 1) := by decide +kernel
theorem dX11_street_63 : decode cX11_street 63 = .ok (.ifCond .ne 11, 3) := by decide +kernel
theorem dX11_street_66 : decode cX11_street 66 = .ok (.bipush (-10), 2) := by decide +kernel
theorem dX11_street_68 : decode cX11_street 68 = .ok (.aload_n 0, 1) := by decide +kernel
theorem dX11_street_69 : decode cX11_street 69 = .ok (.getfield 101, 3) := by decide +kernel
theorem dX11_street_72 : decode cX11_street 72 = .ok (.isub, 1) := by decide +kernel
theorem dX11_street_73 : decode cX11_street 73 = .ok (.ireturn, 1) := by decide +kernel
theorem dX11_street_74 : decode cX11_street 74 = .ok (.aload_n 0, 1) := by decide +kernel
theorem dX11_street_75 : decode cX11_street 75 = .ok (.aload_n 0, 1) := by decide +kernel
theorem dX11_street_76 : decode cX11_street 76 = .ok (.getfield 27, 3) := by decide +kernel
theorem dX11_street_79 : decode cX11_street 79 = .ok (.getfield 107, 3) := by decide +kernel
theorem dX11_street_82 : decode cX11_street 82 = .ok (.putfield 20, 3) := by decide +kernel
theorem dX11_street_85 : decode cX11_street 85 = .ok (.aload_n 0, 1) := by decide +kernel
theorem dX11_street_86 : decode cX11_street 86 = .ok (.getfield 34, 3) := by decide +kernel
theorem dX11_street_89 : decode cX11_street 89 = .ok (.aload_n 0, 1) := by decide +kernel
theorem dX11_street_90 : decode cX11_street 90 = .ok (.getfield 20, 3) := by decide +kernel
theorem dX11_street_93 : decode cX11_street 93 = .ok (.getfield 108, 3) := by decide +kernel
theorem dX11_street_96 : decode cX11_street 96 = .ok (.invokevirtual 111, 3) := by decide +kernel
theorem dX11_street_99 : decode cX11_street 99 = .ok (.aload_n 0, 1) := by decide +kernel
theorem dX11_street_100 : decode cX11_street 100 = .ok (.getfield 41, 3) := by decide +kernel
theorem dX11_street_103 : decode cX11_street 103 = .ok (.iconst 0, 1) := by decide +kernel
theorem dX11_street_104 : decode cX11_street 104 = .ok (.putfield 115, 3) := by decide +kernel
theorem dX11_street_107 : decode cX11_street 107 = .ok (.aload_n 0, 1) := by decide +kernel
theorem dX11_street_108 : decode cX11_street 108 = .ok (.getfield 20, 3) := by decide +kernel
theorem dX11_street_111 : decode cX11_street 111 = .ok (.getfield 118, 3) := by decide +kernel
theorem dX11_street_114 : decode cX11_street 114 = .ok (.ireturn, 1) := by decide +kernel
theorem dX11_fault_0 : decode cX11_fault 0 = .ok (.iload_n 1, 1) := by decide +kernel
theorem dX11_fault_1 : decode cX11_fault 1 = .ok (.ifCond .ne 10, 3) := by decide +kernel
theorem dX11_fault_4 : decode cX11_fault 4 = .ok (.aload_n 0, 1) := by decide +kernel
theorem dX11_fault_5 : decode cX11_fault 5 = .ok (.getfield 101, 3) := by decide +kernel
theorem dX11_fault_8 : decode cX11_fault 8 = .ok (.goto 16, 3) := by decide +kernel
theorem dX11_fault_11 : decode cX11_fault 11 = .ok (.iload_n 1, 1) := by decide +kernel
theorem dX11_fault_12 : decode cX11_fault 12 = .ok (.iconst 1, 1) := by decide +kernel
theorem dX11_fault_13 : decode cX11_fault 13 = .ok (.if_icmp .ne 10, 3) := by decide +kernel
theorem dX11_fault_16 : decode cX11_fault 16 = .ok (.aload_n 0, 1) := by decide +kernel
theorem dX11_fault_17 : decode cX11_fault 17 = .ok (.getfield 13, 3) := by decide +kernel
theorem dX11_fault_20 : decode cX11_fault 20 = .ok (.goto 4, 3) := by decide +kernel
theorem dX11_fault_23 : decode cX11_fault 23 = .ok (.iconst (-1), 1) := by decide +kernel
theorem dX11_fault_24 : decode cX11_fault 24 = .ok (.ireturn, 1) := by decide +kernel
theorem dX11_house_0 : decode cX11_house 0 = .ok (.aload_n 0, 1) := by decide +kernel
theorem dX11_house_1 : decode cX11_house 1 = .ok (.iload_n 1, 1) := by decide +kernel
theorem dX11_house_2 : decode cX11_house 2 = .ok (.invokevirtual 121, 3) := by decide +kernel
theorem dX11_house_5 : decode cX11_house 5 = .ok (.iload_n 2, 1) := by decide +kernel
theorem dX11_house_6 : decode cX11_house 6 = .ok (.tableswitch 62 0 2 #[26, 36, 46], 26) := by decide +kernel
theorem dX11_house_32 : decode cX11_house 32 = .ok (.aload_n 0, 1) := by decide +kernel
theorem dX11_house_33 : decode cX11_house 33 = .ok (.getfield 34, 3) := by decide +kernel
theorem dX11_house_36 : decode cX11_house 36 = .ok (.getfield 124, 3) := by decide +kernel
theorem dX11_house_39 : decode cX11_house 39 = .ok (.iload_n 1, 1) := by decide +kernel
theorem dX11_house_40 : decode cX11_house 40 = .ok (.iaload, 1) := by decide +kernel
theorem dX11_house_41 : decode cX11_house 41 = .ok (.ireturn, 1) := by decide +kernel
theorem dX11_house_42 : decode cX11_house 42 = .ok (.aload_n 0, 1) := by decide +kernel
theorem dX11_house_43 : decode cX11_house 43 = .ok (.getfield 34, 3) := by decide +kernel
theorem dX11_house_46 : decode cX11_house 46 = .ok (.getfield 128, 3) := by decide +kernel
theorem dX11_house_49 : decode cX11_house 49 = .ok (.iload_n 1, 1) := by decide +kernel
theorem dX11_house_50 : decode cX11_house 50 = .ok (.iaload, 1) := by decide +kernel
theorem dX11_house_51 : decode cX11_house 51 = .ok (.ireturn, 1) := by decide +kernel
theorem dX11_house_52 : decode cX11_house 52 = .ok (.aload_n 0, 1) := by decide +kernel
theorem dX11_house_53 : decode cX11_house 53 = .ok (.getfield 20, 3) := by decide +kernel
theorem dX11_house_56 : decode cX11_house 56 = .ok (.iload_n 1, 1) := by decide +kernel
theorem dX11_house_57 : decode cX11_house 57 = .ok (.aload_n 0, 1) := by decide +kernel
theorem dX11_house_58 : decode cX11_house 58 = .ok (.getfield 34, 3) := by decide +kernel
theorem dX11_house_61 : decode cX11_house 61 = .ok (.getfield 131, 3) := by decide +kernel
theorem dX11_house_64 : decode cX11_house 64 = .ok (.invokevirtual 134, 3) := by decide +kernel
theorem dX11_house_67 : decode cX11_house 67 = .ok (.ireturn, 1) := by decide +kernel
theorem dX11_house_68 : decode cX11_house 68 = .ok (.new 87, 3) := by decide +kernel
theorem dX11_house_71 : decode cX11_house 71 = .ok (.dup, 1) := by decide +kernel
theorem dX11_house_72 : decode cX11_house 72 = .ok (.ldc 138, 2) := by decide +kernel
theorem dX11_house_74 : decode cX11_house 74 = .ok (.invokespecial 91, 3) := by decide +kernel
theorem dX11_house_77 : decode cX11_house 77 = .ok (.athrow, 1) := by decide +kernel
theorem dX11_household_0 : decode cX11_household 0 = .ok (.aload_n 0, 1) := by decide +kernel
theorem dX11_household_1 : decode cX11_household 1 = .ok (.iload_n 1, 1) := by decide +kernel
theorem dX11_household_2 : decode cX11_household 2 = .ok (.invokevirtual 121, 3) := by decide +kernel
theorem dX11_household_5 : decode cX11_household 5 = .ok (.iload_n 2, 1) := by decide +kernel
theorem dX11_household_6 : decode cX11_household 6 = .ok (.tableswitch 70 0 3 #[30, 40, 50, 60], 30) := by decide +kernel
theorem dX11_household_36 : decode cX11_household 36 = .ok (.aload_n 0, 1) := by decide +kernel
theorem dX11_household_37 : decode cX11_household 37 = .ok (.getfield 34, 3) := by decide +kernel
theorem dX11_household_40 : decode cX11_household 40 = .ok (.getfield 140, 3) := by decide +kernel
theorem dX11_household_43 : decode cX11_household 43 = .ok (.iload_n 1, 1) := by decide +kernel
theorem dX11_household_44 : decode cX11_household 44 = .ok (.iaload, 1) := by decide +kernel
theorem dX11_household_45 : decode cX11_household 45 = .ok (.ireturn, 1) := by decide +kernel
theorem dX11_household_46 : decode cX11_household 46 = .ok (.aload_n 0, 1) := by decide +kernel
theorem dX11_household_47 : decode cX11_household 47 = .ok (.getfield 34, 3) := by decide +kernel
theorem dX11_household_50 : decode cX11_household 50 = .ok (.getfield 143, 3) := by decide +kernel
theorem dX11_household_53 : decode cX11_household 53 = .ok (.iload_n 1, 1) := by decide +kernel
theorem dX11_household_54 : decode cX11_household 54 = .ok (.iaload, 1) := by decide +kernel
theorem dX11_household_55 : decode cX11_household 55 = .ok (.ireturn, 1) := by decide +kernel
theorem dX11_household_56 : decode cX11_household 56 = .ok (.aload_n 0, 1) := by decide +kernel
theorem dX11_household_57 : decode cX11_household 57 = .ok (.getfield 34, 3) := by decide +kernel
theorem dX11_household_60 : decode cX11_household 60 = .ok (.getfield 146, 3) := by decide +kernel
theorem dX11_household_63 : decode cX11_household 63 = .ok (.iload_n 1, 1) := by decide +kernel
theorem dX11_household_64 : decode cX11_household 64 = .ok (.iaload, 1) := by decide +kernel
theorem dX11_household_65 : decode cX11_household 65 = .ok (.ireturn, 1) := by decide +kernel
theorem dX11_household_66 : decode cX11_household 66 = .ok (.aload_n 0, 1) := by decide +kernel
theorem dX11_household_67 : decode cX11_household 67 = .ok (.getfield 34, 3) := by decide +kernel
theorem dX11_household_70 : decode cX11_household 70 = .ok (.getfield 149, 3) := by decide +kernel
theorem dX11_household_73 : decode cX11_household 73 = .ok (.iload_n 1, 1) := by decide +kernel
theorem dX11_household_74 : decode cX11_household 74 = .ok (.iaload, 1) := by decide +kernel
theorem dX11_household_75 : decode cX11_household 75 = .ok (.ireturn, 1) := by decide +kernel
theorem dX11_household_76 : decode cX11_household 76 = .ok (.new 87, 3) := by decide +kernel
theorem dX11_household_79 : decode cX11_household 79 = .ok (.dup, 1) := by decide +kernel
theorem dX11_household_80 : decode cX11_household 80 = .ok (.ldc 152, 2) := by decide +kernel
theorem dX11_household_82 : decode cX11_household 82 = .ok (.invokespecial 91, 3) := by decide +kernel
theorem dX11_household_85 : decode cX11_household 85 = .ok (.athrow, 1) := by decide +kernel
theorem dX11_pays_0 : decode cX11_pays 0 = .ok (.aload_n 0, 1) := by decide +kernel
theorem dX11_pays_1 : decode cX11_pays 1 = .ok (.iload_n 1, 1) := by decide +kernel
theorem dX11_pays_2 : decode cX11_pays 2 = .ok (.invokevirtual 121, 3) := by decide +kernel
theorem dX11_pays_5 : decode cX11_pays 5 = .ok (.aload_n 0, 1) := by decide +kernel
theorem dX11_pays_6 : decode cX11_pays 6 = .ok (.iload_n 1, 1) := by decide +kernel
theorem dX11_pays_7 : decode cX11_pays 7 = .ok (.invokevirtual 154, 3) := by decide +kernel
theorem dX11_pays_10 : decode cX11_pays 10 = .ok (.aload_n 0, 1) := by decide +kernel
theorem dX11_pays_11 : decode cX11_pays 11 = .ok (.getfield 62, 3) := by decide +kernel
theorem dX11_pays_14 : decode cX11_pays 14 = .ok (.aload_n 0, 1) := by decide +kernel
theorem dX11_pays_15 : decode cX11_pays 15 = .ok (.getfield 20, 3) := by decide +kernel
theorem dX11_pays_18 : decode cX11_pays 18 = .ok (.aload_n 0, 1) := by decide +kernel
theorem dX11_pays_19 : decode cX11_pays 19 = .ok (.getfield 34, 3) := by decide +kernel
theorem dX11_pays_22 : decode cX11_pays 22 = .ok (.iload_n 1, 1) := by decide +kernel
theorem dX11_pays_23 : decode cX11_pays 23 = .ok (.aload_n 0, 1) := by decide +kernel
theorem dX11_pays_24 : decode cX11_pays 24 = .ok (.getfield 34, 3) := by decide +kernel
theorem dX11_pays_27 : decode cX11_pays 27 = .ok (.getfield 146, 3) := by decide +kernel
theorem dX11_pays_30 : decode cX11_pays 30 = .ok (.iload_n 1, 1) := by decide +kernel
theorem dX11_pays_31 : decode cX11_pays 31 = .ok (.iaload, 1) := by decide +kernel
theorem dX11_pays_32 : decode cX11_pays 32 = .ok (.aload_n 0, 1) := by decide +kernel
theorem dX11_pays_33 : decode cX11_pays 33 = .ok (.getfield 34, 3) := by decide +kernel
theorem dX11_pays_36 : decode cX11_pays 36 = .ok (.getfield 124, 3) := by decide +kernel
theorem dX11_pays_39 : decode cX11_pays 39 = .ok (.iload_n 1, 1) := by decide +kernel
theorem dX11_pays_40 : decode cX11_pays 40 = .ok (.iaload, 1) := by decide +kernel
theorem dX11_pays_41 : decode cX11_pays 41 = .ok (.invokevirtual 157, 3) := by decide +kernel
theorem dX11_pays_44 : decode cX11_pays 44 = .ok (.ireturn, 1) := by decide +kernel
theorem dX11_grows_0 : decode cX11_grows 0 = .ok (.aload_n 0, 1) := by decide +kernel
theorem dX11_grows_1 : decode cX11_grows 1 = .ok (.iload_n 1, 1) := by decide +kernel
theorem dX11_grows_2 : decode cX11_grows 2 = .ok (.invokevirtual 121, 3) := by decide +kernel
theorem dX11_grows_5 : decode cX11_grows 5 = .ok (.aload_n 0, 1) := by decide +kernel
theorem dX11_grows_6 : decode cX11_grows 6 = .ok (.iload_n 2, 1) := by decide +kernel
theorem dX11_grows_7 : decode cX11_grows 7 = .ok (.iconst 0, 1) := by decide +kernel
theorem dX11_grows_8 : decode cX11_grows 8 = .ok (.ldc 161, 2) := by decide +kernel
theorem dX11_grows_10 : decode cX11_grows 10 = .ok (.invokevirtual 162, 3) := by decide +kernel
theorem dX11_grows_13 : decode cX11_grows 13 = .ok (.aload_n 0, 1) := by decide +kernel
theorem dX11_grows_14 : decode cX11_grows 14 = .ok (.getfield 62, 3) := by decide +kernel
theorem dX11_grows_17 : decode cX11_grows 17 = .ok (.aload_n 0, 1) := by decide +kernel
theorem dX11_grows_18 : decode cX11_grows 18 = .ok (.getfield 20, 3) := by decide +kernel
theorem dX11_grows_21 : decode cX11_grows 21 = .ok (.aload_n 0, 1) := by decide +kernel
theorem dX11_grows_22 : decode cX11_grows 22 = .ok (.getfield 34, 3) := by decide +kernel
theorem dX11_grows_25 : decode cX11_grows 25 = .ok (.iload_n 1, 1) := by decide +kernel
theorem dX11_grows_26 : decode cX11_grows 26 = .ok (.iload_n 2, 1) := by decide +kernel
theorem dX11_grows_27 : decode cX11_grows 27 = .ok (.invokevirtual 166, 3) := by decide +kernel
theorem dX11_grows_30 : decode cX11_grows 30 = .ok (.ireturn, 1) := by decide +kernel
theorem dX11_takes_0 : decode cX11_takes 0 = .ok (.aload_n 0, 1) := by decide +kernel
theorem dX11_takes_1 : decode cX11_takes 1 = .ok (.iload_n 1, 1) := by decide +kernel
theorem dX11_takes_2 : decode cX11_takes 2 = .ok (.invokevirtual 121, 3) := by decide +kernel
theorem dX11_takes_5 : decode cX11_takes 5 = .ok (.aload_n 0, 1) := by decide +kernel
theorem dX11_takes_6 : decode cX11_takes 6 = .ok (.iload_n 2, 1) := by decide +kernel
theorem dX11_takes_7 : decode cX11_takes 7 = .ok (.iconst 0, 1) := by decide +kernel
theorem dX11_takes_8 : decode cX11_takes 8 = .ok (.ldc 161, 2) := by decide +kernel
theorem dX11_takes_10 : decode cX11_takes 10 = .ok (.invokevirtual 162, 3) := by decide +kernel
theorem dX11_takes_13 : decode cX11_takes 13 = .ok (.aload_n 0, 1) := by decide +kernel
theorem dX11_takes_14 : decode cX11_takes 14 = .ok (.getfield 62, 3) := by decide +kernel
theorem dX11_takes_17 : decode cX11_takes 17 = .ok (.aload_n 0, 1) := by decide +kernel
theorem dX11_takes_18 : decode cX11_takes 18 = .ok (.getfield 20, 3) := by decide +kernel
theorem dX11_takes_21 : decode cX11_takes 21 = .ok (.aload_n 0, 1) := by decide +kernel
theorem dX11_takes_22 : decode cX11_takes 22 = .ok (.getfield 34, 3) := by decide +kernel
theorem dX11_takes_25 : decode cX11_takes 25 = .ok (.iload_n 1, 1) := by decide +kernel
theorem dX11_takes_26 : decode cX11_takes 26 = .ok (.iload_n 2, 1) := by decide +kernel
theorem dX11_takes_27 : decode cX11_takes 27 = .ok (.invokevirtual 170, 3) := by decide +kernel
theorem dX11_takes_30 : decode cX11_takes 30 = .ok (.ireturn, 1) := by decide +kernel
theorem dX11_checkHouse_0 : decode cX11_checkHouse 0 = .ok (.aload_n 0, 1) := by decide +kernel
theorem dX11_checkHouse_1 : decode cX11_checkHouse 1 = .ok (.getfield 34, 3) := by decide +kernel
theorem dX11_checkHouse_4 : decode cX11_checkHouse 4 = .ok (.iload_n 1, 1) := by decide +kernel
theorem dX11_checkHouse_5 : decode cX11_checkHouse 5 = .ok (.invokevirtual 174, 3) := by decide +kernel
theorem dX11_checkHouse_8 : decode cX11_checkHouse 8 = .ok (.ifCond .ne 13, 3) := by decide +kernel
theorem dX11_checkHouse_11 : decode cX11_checkHouse 11 = .ok (.new 178, 3) := by decide +kernel
theorem dX11_checkHouse_14 : decode cX11_checkHouse 14 = .ok (.dup, 1) := by decide +kernel
theorem dX11_checkHouse_15 : decode cX11_checkHouse 15 = .ok (.ldc 180, 2) := by decide +kernel
theorem dX11_checkHouse_17 : decode cX11_checkHouse 17 = .ok (.invokespecial 182, 3) := by decide +kernel
theorem dX11_checkHouse_20 : decode cX11_checkHouse 20 = .ok (.athrow, 1) := by decide +kernel
theorem dX11_checkHouse_21 : decode cX11_checkHouse 21 = .ok (.return_, 1) := by decide +kernel
theorem dX11_checkNotGone_0 : decode cX11_checkNotGone 0 = .ok (.aload_n 0, 1) := by decide +kernel
theorem dX11_checkNotGone_1 : decode cX11_checkNotGone 1 = .ok (.getfield 34, 3) := by decide +kernel
theorem dX11_checkNotGone_4 : decode cX11_checkNotGone 4 = .ok (.iload_n 1, 1) := by decide +kernel
theorem dX11_checkNotGone_5 : decode cX11_checkNotGone 5 = .ok (.invokevirtual 183, 3) := by decide +kernel
theorem dX11_checkNotGone_8 : decode cX11_checkNotGone 8 = .ok (.ifCond .eq 13, 3) := by decide +kernel
theorem dX11_checkNotGone_11 : decode cX11_checkNotGone 11 = .ok (.new 186, 3) := by decide +kernel
theorem dX11_checkNotGone_14 : decode cX11_checkNotGone 14 = .ok (.dup, 1) := by decide +kernel
theorem dX11_checkNotGone_15 : decode cX11_checkNotGone 15 = .ok (.ldc 188, 2) := by decide +kernel
theorem dX11_checkNotGone_17 : decode cX11_checkNotGone 17 = .ok (.invokespecial 190, 3) := by decide +kernel
theorem dX11_checkNotGone_20 : decode cX11_checkNotGone 20 = .ok (.athrow, 1) := by decide +kernel
theorem dX11_checkNotGone_21 : decode cX11_checkNotGone 21 = .ok (.return_, 1) := by decide +kernel
theorem dX11_checkWithin_0 : decode cX11_checkWithin 0 = .ok (.iload_n 1, 1) := by decide +kernel
theorem dX11_checkWithin_1 : decode cX11_checkWithin 1 = .ok (.iload_n 2, 1) := by decide +kernel
theorem dX11_checkWithin_2 : decode cX11_checkWithin 2 = .ok (.if_icmp .lt 8, 3) := by decide +kernel
theorem dX11_checkWithin_5 : decode cX11_checkWithin 5 = .ok (.iload_n 1, 1) := by decide +kernel
theorem dX11_checkWithin_6 : decode cX11_checkWithin 6 = .ok (.iload_n 3, 1) := by decide +kernel
theorem dX11_checkWithin_7 : decode cX11_checkWithin 7 = .ok (.if_icmp .le 13, 3) := by decide +kernel
theorem dX11_checkWithin_10 : decode cX11_checkWithin 10 = .ok (.new 87, 3) := by decide +kernel
theorem dX11_checkWithin_13 : decode cX11_checkWithin 13 = .ok (.dup, 1) := by decide +kernel
theorem dX11_checkWithin_14 : decode cX11_checkWithin 14 = .ok (.ldc 191, 2) := by decide +kernel
theorem dX11_checkWithin_16 : decode cX11_checkWithin 16 = .ok (.invokespecial 91, 3) := by decide +kernel
theorem dX11_checkWithin_19 : decode cX11_checkWithin 19 = .ok (.athrow, 1) := by decide +kernel
theorem dX11_checkWithin_20 : decode cX11_checkWithin 20 = .ok (.return_, 1) := by decide +kernel
theorem dX11_swap_0 : decode cX11_swap 0 = .ok (.aload_n 0, 1) := by decide +kernel
theorem dX11_swap_1 : decode cX11_swap 1 = .ok (.getfield 34, 3) := by decide +kernel
theorem dX11_swap_4 : decode cX11_swap 4 = .ok (.iload_n 1, 1) := by decide +kernel
theorem dX11_swap_5 : decode cX11_swap 5 = .ok (.iload_n 2, 1) := by decide +kernel
theorem dX11_swap_6 : decode cX11_swap 6 = .ok (.invokevirtual 193, 3) := by decide +kernel
theorem dX11_swap_9 : decode cX11_swap 9 = .ok (.istore_n 3, 1) := by decide +kernel
theorem dX11_swap_10 : decode cX11_swap 10 = .ok (.iload_n 3, 1) := by decide +kernel
theorem dX11_swap_11 : decode cX11_swap 11 = .ok (.ifCond .eq 6, 3) := by decide +kernel
theorem dX11_swap_14 : decode cX11_swap 14 = .ok (.iload_n 3, 1) := by decide +kernel
theorem dX11_swap_15 : decode cX11_swap 15 = .ok (.ineg, 1) := by decide +kernel
theorem dX11_swap_16 : decode cX11_swap 16 = .ok (.ireturn, 1) := by decide +kernel
theorem dX11_swap_17 : decode cX11_swap 17 = .ok (.aload_n 0, 1) := by decide +kernel
theorem dX11_swap_18 : decode cX11_swap 18 = .ok (.getfield 41, 3) := by decide +kernel
theorem dX11_swap_21 : decode cX11_swap 21 = .ok (.aload_n 0, 1) := by decide +kernel
theorem dX11_swap_22 : decode cX11_swap 22 = .ok (.getfield 34, 3) := by decide +kernel
theorem dX11_swap_25 : decode cX11_swap 25 = .ok (.invokevirtual 196, 3) := by decide +kernel
theorem dX11_swap_28 : decode cX11_swap 28 = .ok (.aload_n 0, 1) := by decide +kernel
theorem dX11_swap_29 : decode cX11_swap 29 = .ok (.getfield 34, 3) := by decide +kernel
theorem dX11_swap_32 : decode cX11_swap 32 = .ok (.iload_n 1, 1) := by decide +kernel
theorem dX11_swap_33 : decode cX11_swap 33 = .ok (.iload_n 2, 1) := by decide +kernel
theorem dX11_swap_34 : decode cX11_swap 34 = .ok (.invokevirtual 199, 3) := by decide +kernel
theorem dX11_swap_37 : decode cX11_swap 37 = .ok (.aload_n 0, 1) := by decide +kernel
theorem dX11_swap_38 : decode cX11_swap 38 = .ok (.getfield 34, 3) := by decide +kernel
theorem dX11_swap_41 : decode cX11_swap 41 = .ok (.getfield 124, 3) := by decide +kernel
theorem dX11_swap_44 : decode cX11_swap 44 = .ok (.iload_n 1, 1) := by decide +kernel
theorem dX11_swap_45 : decode cX11_swap 45 = .ok (.iaload, 1) := by decide +kernel
theorem dX11_swap_46 : decode cX11_swap 46 = .ok (.aload_n 0, 1) := by decide +kernel
theorem dX11_swap_47 : decode cX11_swap 47 = .ok (.getfield 34, 3) := by decide +kernel
theorem dX11_swap_50 : decode cX11_swap 50 = .ok (.getfield 124, 3) := by decide +kernel
theorem dX11_swap_53 : decode cX11_swap 53 = .ok (.iload_n 2, 1) := by decide +kernel
theorem dX11_swap_54 : decode cX11_swap 54 = .ok (.iaload, 1) := by decide +kernel
theorem dX11_swap_55 : decode cX11_swap 55 = .ok (.iadd, 1) := by decide +kernel
theorem dX11_swap_56 : decode cX11_swap 56 = .ok (.ireturn, 1) := by decide +kernel
theorem dX11_gift_0 : decode cX11_gift 0 = .ok (.iload_n 3, 1) := by decide +kernel
theorem dX11_gift_1 : decode cX11_gift 1 = .ok (.iconst 1, 1) := by decide +kernel
theorem dX11_gift_2 : decode cX11_gift 2 = .ok (.if_icmp .lt 10, 3) := by decide +kernel
theorem dX11_gift_5 : decode cX11_gift 5 = .ok (.iload_n 3, 1) := by decide +kernel
theorem dX11_gift_6 : decode cX11_gift 6 = .ok (.sipush 999, 3) := by decide +kernel
theorem dX11_gift_9 : decode cX11_gift 9 = .ok (.if_icmp .le 7, 3) := by decide +kernel
theorem dX11_gift_12 : decode cX11_gift 12 = .ok (.iconst 1, 1) := by decide +kernel
theorem dX11_gift_13 : decode cX11_gift 13 = .ok (.goto 13, 3) := by decide +kernel
theorem dX11_gift_16 : decode cX11_gift 16 = .ok (.aload_n 0, 1) := by decide +kernel
theorem dX11_gift_17 : decode cX11_gift 17 = .ok (.getfield 34, 3) := by decide +kernel
theorem dX11_gift_20 : decode cX11_gift 20 = .ok (.iload_n 1, 1) := by decide +kernel
theorem dX11_gift_21 : decode cX11_gift 21 = .ok (.iload_n 2, 1) := by decide +kernel
theorem dX11_gift_22 : decode cX11_gift 22 = .ok (.iload_n 3, 1) := by decide +kernel
theorem dX11_gift_23 : decode cX11_gift 23 = .ok (.invokevirtual 203, 3) := by decide +kernel
theorem dX11_gift_26 : decode cX11_gift 26 = .ok (.istore 4, 2) := by decide +kernel
theorem dX11_gift_28 : decode cX11_gift 28 = .ok (.iload 4, 2) := by decide +kernel
theorem dX11_gift_30 : decode cX11_gift 30 = .ok (.ifCond .eq 7, 3) := by decide +kernel
theorem dX11_gift_33 : decode cX11_gift 33 = .ok (.iload 4, 2) := by decide +kernel
theorem dX11_gift_35 : decode cX11_gift 35 = .ok (.ineg, 1) := by decide +kernel
theorem dX11_gift_36 : decode cX11_gift 36 = .ok (.ireturn, 1) := by decide +kernel
theorem dX11_gift_37 : decode cX11_gift 37 = .ok (.aload_n 0, 1) := by decide +kernel
theorem dX11_gift_38 : decode cX11_gift 38 = .ok (.getfield 41, 3) := by decide +kernel
theorem dX11_gift_41 : decode cX11_gift 41 = .ok (.aload_n 0, 1) := by decide +kernel
theorem dX11_gift_42 : decode cX11_gift 42 = .ok (.getfield 34, 3) := by decide +kernel
theorem dX11_gift_45 : decode cX11_gift 45 = .ok (.invokevirtual 196, 3) := by decide +kernel
theorem dX11_gift_48 : decode cX11_gift 48 = .ok (.aload_n 0, 1) := by decide +kernel
theorem dX11_gift_49 : decode cX11_gift 49 = .ok (.getfield 34, 3) := by decide +kernel
theorem dX11_gift_52 : decode cX11_gift 52 = .ok (.iload_n 1, 1) := by decide +kernel
theorem dX11_gift_53 : decode cX11_gift 53 = .ok (.iload_n 2, 1) := by decide +kernel
theorem dX11_gift_54 : decode cX11_gift 54 = .ok (.iload_n 3, 1) := by decide +kernel
theorem dX11_gift_55 : decode cX11_gift 55 = .ok (.invokevirtual 207, 3) := by decide +kernel
theorem dX11_gift_58 : decode cX11_gift 58 = .ok (.aload_n 0, 1) := by decide +kernel
theorem dX11_gift_59 : decode cX11_gift 59 = .ok (.getfield 34, 3) := by decide +kernel
theorem dX11_gift_62 : decode cX11_gift 62 = .ok (.getfield 146, 3) := by decide +kernel
theorem dX11_gift_65 : decode cX11_gift 65 = .ok (.iload_n 1, 1) := by decide +kernel
theorem dX11_gift_66 : decode cX11_gift 66 = .ok (.iaload, 1) := by decide +kernel
theorem dX11_gift_67 : decode cX11_gift 67 = .ok (.ireturn, 1) := by decide +kernel
theorem dX11_plant_0 : decode cX11_plant 0 = .ok (.aload_n 0, 1) := by decide +kernel
theorem dX11_plant_1 : decode cX11_plant 1 = .ok (.iload_n 1, 1) := by decide +kernel
theorem dX11_plant_2 : decode cX11_plant 2 = .ok (.invokevirtual 121, 3) := by decide +kernel
theorem dX11_plant_5 : decode cX11_plant 5 = .ok (.aload_n 0, 1) := by decide +kernel
theorem dX11_plant_6 : decode cX11_plant 6 = .ok (.iload_n 2, 1) := by decide +kernel
theorem dX11_plant_7 : decode cX11_plant 7 = .ok (.iconst 0, 1) := by decide +kernel
theorem dX11_plant_8 : decode cX11_plant 8 = .ok (.bipush 20, 2) := by decide +kernel
theorem dX11_plant_10 : decode cX11_plant 10 = .ok (.invokevirtual 162, 3) := by decide +kernel
theorem dX11_plant_13 : decode cX11_plant 13 = .ok (.aload_n 0, 1) := by decide +kernel
theorem dX11_plant_14 : decode cX11_plant 14 = .ok (.getfield 34, 3) := by decide +kernel
theorem dX11_plant_17 : decode cX11_plant 17 = .ok (.getfield 128, 3) := by decide +kernel
theorem dX11_plant_20 : decode cX11_plant 20 = .ok (.iload_n 1, 1) := by decide +kernel
theorem dX11_plant_21 : decode cX11_plant 21 = .ok (.iaload, 1) := by decide +kernel
theorem dX11_plant_22 : decode cX11_plant 22 = .ok (.istore_n 3, 1) := by decide +kernel
theorem dX11_plant_23 : decode cX11_plant 23 = .ok (.aload_n 0, 1) := by decide +kernel
theorem dX11_plant_24 : decode cX11_plant 24 = .ok (.getfield 41, 3) := by decide +kernel
theorem dX11_plant_27 : decode cX11_plant 27 = .ok (.aload_n 0, 1) := by decide +kernel
theorem dX11_plant_28 : decode cX11_plant 28 = .ok (.getfield 34, 3) := by decide +kernel
theorem dX11_plant_31 : decode cX11_plant 31 = .ok (.invokevirtual 196, 3) := by decide +kernel
theorem dX11_plant_34 : decode cX11_plant 34 = .ok (.aload_n 0, 1) := by decide +kernel
theorem dX11_plant_35 : decode cX11_plant 35 = .ok (.getfield 34, 3) := by decide +kernel
theorem dX11_plant_38 : decode cX11_plant 38 = .ok (.getfield 128, 3) := by decide +kernel
theorem dX11_plant_41 : decode cX11_plant 41 = .ok (.iload_n 1, 1) := by decide +kernel
theorem dX11_plant_42 : decode cX11_plant 42 = .ok (.iload_n 2, 1) := by decide +kernel
theorem dX11_plant_43 : decode cX11_plant 43 = .ok (.iastore, 1) := by decide +kernel
theorem dX11_plant_44 : decode cX11_plant 44 = .ok (.iload_n 3, 1) := by decide +kernel
theorem dX11_plant_45 : decode cX11_plant 45 = .ok (.ireturn, 1) := by decide +kernel
theorem dX11_payOff_0 : decode cX11_payOff 0 = .ok (.iload_n 2, 1) := by decide +kernel
theorem dX11_payOff_1 : decode cX11_payOff 1 = .ok (.iconst 1, 1) := by decide +kernel
theorem dX11_payOff_2 : decode cX11_payOff 2 = .ok (.if_icmp .lt 10, 3) := by decide +kernel
theorem dX11_payOff_5 : decode cX11_payOff 5 = .ok (.iload_n 2, 1) := by decide +kernel
theorem dX11_payOff_6 : decode cX11_payOff 6 = .ok (.sipush 999, 3) := by decide +kernel
theorem dX11_payOff_9 : decode cX11_payOff 9 = .ok (.if_icmp .le 7, 3) := by decide +kernel
theorem dX11_payOff_12 : decode cX11_payOff 12 = .ok (.iconst 1, 1) := by decide +kernel
theorem dX11_payOff_13 : decode cX11_payOff 13 = .ok (.goto 11, 3) := by decide +kernel
theorem dX11_payOff_16 : decode cX11_payOff 16 = .ok (.aload_n 0, 1) := by decide +kernel
theorem dX11_payOff_17 : decode cX11_payOff 17 = .ok (.getfield 34, 3) := by decide +kernel
theorem dX11_payOff_20 : decode cX11_payOff 20 = .ok (.iload_n 1, 1) := by decide +kernel
theorem dX11_payOff_21 : decode cX11_payOff 21 = .ok (.invokevirtual 210, 3) := by decide +kernel
theorem dX11_payOff_24 : decode cX11_payOff 24 = .ok (.istore_n 3, 1) := by decide +kernel
theorem dX11_payOff_25 : decode cX11_payOff 25 = .ok (.iload_n 3, 1) := by decide +kernel
theorem dX11_payOff_26 : decode cX11_payOff 26 = .ok (.ifCond .eq 6, 3) := by decide +kernel
theorem dX11_payOff_29 : decode cX11_payOff 29 = .ok (.iload_n 3, 1) := by decide +kernel
theorem dX11_payOff_30 : decode cX11_payOff 30 = .ok (.ineg, 1) := by decide +kernel
theorem dX11_payOff_31 : decode cX11_payOff 31 = .ok (.ireturn, 1) := by decide +kernel
theorem dX11_payOff_32 : decode cX11_payOff 32 = .ok (.aload_n 0, 1) := by decide +kernel
theorem dX11_payOff_33 : decode cX11_payOff 33 = .ok (.getfield 41, 3) := by decide +kernel
theorem dX11_payOff_36 : decode cX11_payOff 36 = .ok (.aload_n 0, 1) := by decide +kernel
theorem dX11_payOff_37 : decode cX11_payOff 37 = .ok (.getfield 34, 3) := by decide +kernel
theorem dX11_payOff_40 : decode cX11_payOff 40 = .ok (.invokevirtual 196, 3) := by decide +kernel
theorem dX11_payOff_43 : decode cX11_payOff 43 = .ok (.aload_n 0, 1) := by decide +kernel
theorem dX11_payOff_44 : decode cX11_payOff 44 = .ok (.getfield 34, 3) := by decide +kernel
theorem dX11_payOff_47 : decode cX11_payOff 47 = .ok (.iload_n 1, 1) := by decide +kernel
theorem dX11_payOff_48 : decode cX11_payOff 48 = .ok (.iload_n 2, 1) := by decide +kernel
theorem dX11_payOff_49 : decode cX11_payOff 49 = .ok (.invokevirtual 214, 3) := by decide +kernel
theorem dX11_payOff_52 : decode cX11_payOff 52 = .ok (.ireturn, 1) := by decide +kernel
theorem dX11_quarters_0 : decode cX11_quarters 0 = .ok (.aload_n 0, 1) := by decide +kernel
theorem dX11_quarters_1 : decode cX11_quarters 1 = .ok (.iload_n 1, 1) := by decide +kernel
theorem dX11_quarters_2 : decode cX11_quarters 2 = .ok (.iconst 1, 1) := by decide +kernel
theorem dX11_quarters_3 : decode cX11_quarters 3 = .ok (.bipush 99, 2) := by decide +kernel
theorem dX11_quarters_5 : decode cX11_quarters 5 = .ok (.invokevirtual 162, 3) := by decide +kernel
theorem dX11_quarters_8 : decode cX11_quarters 8 = .ok (.aload_n 0, 1) := by decide +kernel
theorem dX11_quarters_9 : decode cX11_quarters 9 = .ok (.getfield 41, 3) := by decide +kernel
theorem dX11_quarters_12 : decode cX11_quarters 12 = .ok (.aload_n 0, 1) := by decide +kernel
theorem dX11_quarters_13 : decode cX11_quarters 13 = .ok (.getfield 34, 3) := by decide +kernel
theorem dX11_quarters_16 : decode cX11_quarters 16 = .ok (.invokevirtual 196, 3) := by decide +kernel
theorem dX11_quarters_19 : decode cX11_quarters 19 = .ok (.iconst 0, 1) := by decide +kernel
theorem dX11_quarters_20 : decode cX11_quarters 20 = .ok (.istore_n 2, 1) := by decide +kernel
theorem dX11_quarters_21 : decode cX11_quarters 21 = .ok (.iconst 0, 1) := by decide +kernel
theorem dX11_quarters_22 : decode cX11_quarters 22 = .ok (.istore_n 3, 1) := by decide +kernel
theorem dX11_quarters_23 : decode cX11_quarters 23 = .ok (.iload_n 3, 1) := by decide +kernel
theorem dX11_quarters_24 : decode cX11_quarters 24 = .ok (.iload_n 1, 1) := by decide +kernel
theorem dX11_quarters_25 : decode cX11_quarters 25 = .ok (.if_icmp .ge 41, 3) := by decide +kernel
theorem dX11_quarters_28 : decode cX11_quarters 28 = .ok (.aload_n 0, 1) := by decide +kernel
theorem dX11_quarters_29 : decode cX11_quarters 29 = .ok (.getfield 62, 3) := by decide +kernel
theorem dX11_quarters_32 : decode cX11_quarters 32 = .ok (.aload_n 0, 1) := by decide +kernel
theorem dX11_quarters_33 : decode cX11_quarters 33 = .ok (.getfield 20, 3) := by decide +kernel
theorem dX11_quarters_36 : decode cX11_quarters 36 = .ok (.aload_n 0, 1) := by decide +kernel
theorem dX11_quarters_37 : decode cX11_quarters 37 = .ok (.getfield 34, 3) := by decide +kernel
theorem dX11_quarters_40 : decode cX11_quarters 40 = .ok (.aload_n 0, 1) := by decide +kernel
theorem dX11_quarters_41 : decode cX11_quarters 41 = .ok (.getfield 20, 3) := by decide +kernel
theorem dX11_quarters_44 : decode cX11_quarters 44 = .ok (.getfield 217, 3) := by decide +kernel
theorem dX11_quarters_47 : decode cX11_quarters 47 = .ok (.invokevirtual 220, 3) := by decide +kernel
theorem dX11_quarters_50 : decode cX11_quarters 50 = .ok (.iload_n 2, 1) := by decide +kernel
theorem dX11_quarters_51 : decode cX11_quarters 51 = .ok (.aload_n 0, 1) := by decide +kernel
theorem dX11_quarters_52 : decode cX11_quarters 52 = .ok (.getfield 62, 3) := by decide +kernel
theorem dX11_quarters_55 : decode cX11_quarters 55 = .ok (.getfield 224, 3) := by decide +kernel
theorem dX11_quarters_58 : decode cX11_quarters 58 = .ok (.iadd, 1) := by decide +kernel
theorem dX11_quarters_59 : decode cX11_quarters 59 = .ok (.istore_n 2, 1) := by decide +kernel
theorem dX11_quarters_60 : decode cX11_quarters 60 = .ok (.iinc 3 1, 3) := by decide +kernel
theorem dX11_quarters_63 : decode cX11_quarters 63 = .ok (.goto (-40), 3) := by decide +kernel
theorem dX11_quarters_66 : decode cX11_quarters 66 = .ok (.iload_n 2, 1) := by decide +kernel
theorem dX11_quarters_67 : decode cX11_quarters 67 = .ok (.ireturn, 1) := by decide +kernel
theorem dX11_undo_0 : decode cX11_undo 0 = .ok (.aload_n 0, 1) := by decide +kernel
theorem dX11_undo_1 : decode cX11_undo 1 = .ok (.iload_n 1, 1) := by decide +kernel
theorem dX11_undo_2 : decode cX11_undo 2 = .ok (.iconst 1, 1) := by decide +kernel
theorem dX11_undo_3 : decode cX11_undo 3 = .ok (.bipush 10, 2) := by decide +kernel
theorem dX11_undo_5 : decode cX11_undo 5 = .ok (.invokevirtual 162, 3) := by decide +kernel
theorem dX11_undo_8 : decode cX11_undo 8 = .ok (.iload_n 1, 1) := by decide +kernel
theorem dX11_undo_9 : decode cX11_undo 9 = .ok (.aload_n 0, 1) := by decide +kernel
theorem dX11_undo_10 : decode cX11_undo 10 = .ok (.getfield 41, 3) := by decide +kernel
theorem dX11_undo_13 : decode cX11_undo 13 = .ok (.getfield 115, 3) := by decide +kernel
theorem dX11_undo_16 : decode cX11_undo 16 = .ok (.if_icmp .le 13, 3) := by decide +kernel
theorem dX11_undo_19 : decode cX11_undo 19 = .ok (.new 87, 3) := by decide +kernel
theorem dX11_undo_22 : decode cX11_undo 22 = .ok (.dup, 1) := by decide +kernel
theorem dX11_undo_23 : decode cX11_undo 23 = .ok (.ldc 227, 2) := by decide +kernel
theorem dX11_undo_25 : decode cX11_undo 25 = .ok (.invokespecial 91, 3) := by decide +kernel
theorem dX11_undo_28 : decode cX11_undo 28 = .ok (.athrow, 1) := by decide +kernel
theorem dX11_undo_29 : decode cX11_undo 29 = .ok (.aload_n 0, 1) := by decide +kernel
theorem dX11_undo_30 : decode cX11_undo 30 = .ok (.getfield 41, 3) := by decide +kernel
theorem dX11_undo_33 : decode cX11_undo 33 = .ok (.iload_n 1, 1) := by decide +kernel
theorem dX11_undo_34 : decode cX11_undo 34 = .ok (.aload_n 0, 1) := by decide +kernel
theorem dX11_undo_35 : decode cX11_undo 35 = .ok (.getfield 34, 3) := by decide +kernel
theorem dX11_undo_38 : decode cX11_undo 38 = .ok (.invokevirtual 229, 3) := by decide +kernel
theorem dX11_undo_41 : decode cX11_undo 41 = .ok (.aload_n 0, 1) := by decide +kernel
theorem dX11_undo_42 : decode cX11_undo 42 = .ok (.getfield 41, 3) := by decide +kernel
theorem dX11_undo_45 : decode cX11_undo 45 = .ok (.getfield 115, 3) := by decide +kernel
theorem dX11_undo_48 : decode cX11_undo 48 = .ok (.ireturn, 1) := by decide +kernel
theorem dX11_judge_0 : decode cX11_judge 0 = .ok (.aload_n 0, 1) := by decide +kernel
theorem dX11_judge_1 : decode cX11_judge 1 = .ok (.iload_n 1, 1) := by decide +kernel
theorem dX11_judge_2 : decode cX11_judge 2 = .ok (.invokevirtual 233, 3) := by decide +kernel
theorem dX11_judge_5 : decode cX11_judge 5 = .ok (.astore_n 3, 1) := by decide +kernel
theorem dX11_judge_6 : decode cX11_judge 6 = .ok (.aload_n 0, 1) := by decide +kernel
theorem dX11_judge_7 : decode cX11_judge 7 = .ok (.iload_n 2, 1) := by decide +kernel
theorem dX11_judge_8 : decode cX11_judge 8 = .ok (.iconst 0, 1) := by decide +kernel
theorem dX11_judge_9 : decode cX11_judge 9 = .ok (.iconst 3, 1) := by decide +kernel
theorem dX11_judge_10 : decode cX11_judge 10 = .ok (.invokevirtual 162, 3) := by decide +kernel
theorem dX11_judge_13 : decode cX11_judge 13 = .ok (.aload_n 0, 1) := by decide +kernel
theorem dX11_judge_14 : decode cX11_judge 14 = .ok (.getfield 62, 3) := by decide +kernel
theorem dX11_judge_17 : decode cX11_judge 17 = .ok (.aload_n 0, 1) := by decide +kernel
theorem dX11_judge_18 : decode cX11_judge 18 = .ok (.getfield 20, 3) := by decide +kernel
theorem dX11_judge_21 : decode cX11_judge 21 = .ok (.aload_n 0, 1) := by decide +kernel
theorem dX11_judge_22 : decode cX11_judge 22 = .ok (.getfield 34, 3) := by decide +kernel
theorem dX11_judge_25 : decode cX11_judge 25 = .ok (.invokevirtual 237, 3) := by decide +kernel
theorem dX11_judge_28 : decode cX11_judge 28 = .ok (.astore 4, 2) := by decide +kernel
theorem dX11_judge_30 : decode cX11_judge 30 = .ok (.iconst (-1), 1) := by decide +kernel
theorem dX11_judge_31 : decode cX11_judge 31 = .ok (.istore 5, 2) := by decide +kernel
theorem dX11_judge_33 : decode cX11_judge 33 = .ok (.iconst 0, 1) := by decide +kernel
theorem dX11_judge_34 : decode cX11_judge 34 = .ok (.istore 6, 2) := by decide +kernel
theorem dX11_judge_36 : decode cX11_judge 36 = .ok (.iconst 0, 1) := by decide +kernel
theorem dX11_judge_37 : decode cX11_judge 37 = .ok (.istore 7, 2) := by decide +kernel
theorem dX11_judge_39 : decode cX11_judge 39 = .ok (.iload 7, 2) := by decide +kernel
theorem dX11_judge_41 : decode cX11_judge 41 = .ok (.aload_n 3, 1) := by decide +kernel
theorem dX11_judge_42 : decode cX11_judge 42 = .ok (.getfield 241, 3) := by decide +kernel
theorem dX11_judge_45 : decode cX11_judge 45 = .ok (.if_icmp .ge 52, 3) := by decide +kernel
theorem dX11_judge_48 : decode cX11_judge 48 = .ok (.iload 6, 2) := by decide +kernel
theorem dX11_judge_50 : decode cX11_judge 50 = .ok (.ifCond .ne 47, 3) := by decide +kernel
theorem dX11_judge_53 : decode cX11_judge 53 = .ok (.aload_n 0, 1) := by decide +kernel
theorem dX11_judge_54 : decode cX11_judge 54 = .ok (.aload 4, 2) := by decide +kernel
theorem dX11_judge_56 : decode cX11_judge 56 = .ok (.aload_n 3, 1) := by decide +kernel
theorem dX11_judge_57 : decode cX11_judge 57 = .ok (.iload 7, 2) := by decide +kernel
theorem dX11_judge_59 : decode cX11_judge 59 = .ok (.invokevirtual 242, 3) := by decide +kernel
theorem dX11_judge_62 : decode cX11_judge 62 = .ok (.invokevirtual 246, 3) := by decide +kernel
theorem dX11_judge_65 : decode cX11_judge 65 = .ok (.istore 6, 2) := by decide +kernel
theorem dX11_judge_67 : decode cX11_judge 67 = .ok (.iload 6, 2) := by decide +kernel
theorem dX11_judge_69 : decode cX11_judge 69 = .ok (.ifCond .ne 18, 3) := by decide +kernel
theorem dX11_judge_72 : decode cX11_judge 72 = .ok (.aload_n 0, 1) := by decide +kernel
theorem dX11_judge_73 : decode cX11_judge 73 = .ok (.aload 4, 2) := by decide +kernel
theorem dX11_judge_75 : decode cX11_judge 75 = .ok (.aload_n 3, 1) := by decide +kernel
theorem dX11_judge_76 : decode cX11_judge 76 = .ok (.iload 7, 2) := by decide +kernel
theorem dX11_judge_78 : decode cX11_judge 78 = .ok (.invokevirtual 242, 3) := by decide +kernel
theorem dX11_judge_81 : decode cX11_judge 81 = .ok (.invokevirtual 250, 3) := by decide +kernel
theorem dX11_judge_84 : decode cX11_judge 84 = .ok (.goto 7, 3) := by decide +kernel
theorem dX11_judge_87 : decode cX11_judge 87 = .ok (.iload 7, 2) := by decide +kernel
theorem dX11_judge_89 : decode cX11_judge 89 = .ok (.istore 5, 2) := by decide +kernel
theorem dX11_judge_91 : decode cX11_judge 91 = .ok (.iinc 7 1, 3) := by decide +kernel
theorem dX11_judge_94 : decode cX11_judge 94 = .ok (.goto (-55), 3) := by decide +kernel
theorem dX11_judge_97 : decode cX11_judge 97 = .ok (.iload_n 2, 1) := by decide +kernel
theorem dX11_judge_98 : decode cX11_judge 98 = .ok (.tableswitch 43 0 2 #[26, 29, 32], 26) := by decide +kernel
theorem dX11_judge_124 : decode cX11_judge 124 = .ok (.iload 5, 2) := by decide +kernel
theorem dX11_judge_126 : decode cX11_judge 126 = .ok (.ireturn, 1) := by decide +kernel
theorem dX11_judge_127 : decode cX11_judge 127 = .ok (.iload 6, 2) := by decide +kernel
theorem dX11_judge_129 : decode cX11_judge 129 = .ok (.ireturn, 1) := by decide +kernel
theorem dX11_judge_130 : decode cX11_judge 130 = .ok (.aload 4, 2) := by decide +kernel
theorem dX11_judge_132 : decode cX11_judge 132 = .ok (.aload 4, 2) := by decide +kernel
theorem dX11_judge_134 : decode cX11_judge 134 = .ok (.getfield 124, 3) := by decide +kernel
theorem dX11_judge_137 : decode cX11_judge 137 = .ok (.invokevirtual 254, 3) := by decide +kernel
theorem dX11_judge_140 : decode cX11_judge 140 = .ok (.ireturn, 1) := by decide +kernel
theorem dX11_judge_141 : decode cX11_judge 141 = .ok (.aload 4, 2) := by decide +kernel
theorem dX11_judge_143 : decode cX11_judge 143 = .ok (.getfield 258, 3) := by decide +kernel
theorem dX11_judge_146 : decode cX11_judge 146 = .ok (.ireturn, 1) := by decide +kernel
theorem dX11_perform_0 : decode cX11_perform 0 = .ok (.aload_n 0, 1) := by decide +kernel
theorem dX11_perform_1 : decode cX11_perform 1 = .ok (.iload_n 1, 1) := by decide +kernel
theorem dX11_perform_2 : decode cX11_perform 2 = .ok (.invokevirtual 233, 3) := by decide +kernel
theorem dX11_perform_5 : decode cX11_perform 5 = .ok (.astore_n 2, 1) := by decide +kernel
theorem dX11_perform_6 : decode cX11_perform 6 = .ok (.iconst 0, 1) := by decide +kernel
theorem dX11_perform_7 : decode cX11_perform 7 = .ok (.istore_n 3, 1) := by decide +kernel
theorem dX11_perform_8 : decode cX11_perform 8 = .ok (.iload_n 3, 1) := by decide +kernel
theorem dX11_perform_9 : decode cX11_perform 9 = .ok (.aload_n 2, 1) := by decide +kernel
theorem dX11_perform_10 : decode cX11_perform 10 = .ok (.getfield 241, 3) := by decide +kernel
theorem dX11_perform_13 : decode cX11_perform 13 = .ok (.if_icmp .ge 23, 3) := by decide +kernel
theorem dX11_perform_16 : decode cX11_perform 16 = .ok (.aload_n 0, 1) := by decide +kernel
theorem dX11_perform_17 : decode cX11_perform 17 = .ok (.aload_n 2, 1) := by decide +kernel
theorem dX11_perform_18 : decode cX11_perform 18 = .ok (.iload_n 3, 1) := by decide +kernel
theorem dX11_perform_19 : decode cX11_perform 19 = .ok (.invokevirtual 242, 3) := by decide +kernel
theorem dX11_perform_22 : decode cX11_perform 22 = .ok (.invokevirtual 261, 3) := by decide +kernel
theorem dX11_perform_25 : decode cX11_perform 25 = .ok (.ifCond .ne 5, 3) := by decide +kernel
theorem dX11_perform_28 : decode cX11_perform 28 = .ok (.iload_n 3, 1) := by decide +kernel
theorem dX11_perform_29 : decode cX11_perform 29 = .ok (.ireturn, 1) := by decide +kernel
theorem dX11_perform_30 : decode cX11_perform 30 = .ok (.iinc 3 1, 3) := by decide +kernel
theorem dX11_perform_33 : decode cX11_perform 33 = .ok (.goto (-25), 3) := by decide +kernel
theorem dX11_perform_36 : decode cX11_perform 36 = .ok (.aload_n 2, 1) := by decide +kernel
theorem dX11_perform_37 : decode cX11_perform 37 = .ok (.getfield 241, 3) := by decide +kernel
theorem dX11_perform_40 : decode cX11_perform 40 = .ok (.ireturn, 1) := by decide +kernel
theorem dX11_year_0 : decode cX11_year 0 = .ok (.aload_n 0, 1) := by decide +kernel
theorem dX11_year_1 : decode cX11_year 1 = .ok (.iload_n 2, 1) := by decide +kernel
theorem dX11_year_2 : decode cX11_year 2 = .ok (.iconst 1, 1) := by decide +kernel
theorem dX11_year_3 : decode cX11_year 3 = .ok (.bipush 30, 2) := by decide +kernel
theorem dX11_year_5 : decode cX11_year 5 = .ok (.invokevirtual 162, 3) := by decide +kernel
theorem dX11_year_8 : decode cX11_year 8 = .ok (.aload_n 0, 1) := by decide +kernel
theorem dX11_year_9 : decode cX11_year 9 = .ok (.iload_n 1, 1) := by decide +kernel
theorem dX11_year_10 : decode cX11_year 10 = .ok (.putfield 265, 3) := by decide +kernel
theorem dX11_year_13 : decode cX11_year 13 = .ok (.iconst 0, 1) := by decide +kernel
theorem dX11_year_14 : decode cX11_year 14 = .ok (.istore_n 3, 1) := by decide +kernel
theorem dX11_year_15 : decode cX11_year 15 = .ok (.iconst 0, 1) := by decide +kernel
theorem dX11_year_16 : decode cX11_year 16 = .ok (.istore 4, 2) := by decide +kernel
theorem dX11_year_18 : decode cX11_year 18 = .ok (.iload 4, 2) := by decide +kernel
theorem dX11_year_20 : decode cX11_year 20 = .ok (.iload_n 2, 1) := by decide +kernel
theorem dX11_year_21 : decode cX11_year 21 = .ok (.if_icmp .ge 24, 3) := by decide +kernel
theorem dX11_year_24 : decode cX11_year 24 = .ok (.aload_n 0, 1) := by decide +kernel
theorem dX11_year_25 : decode cX11_year 25 = .ok (.aload_n 0, 1) := by decide +kernel
theorem dX11_year_26 : decode cX11_year 26 = .ok (.invokevirtual 268, 3) := by decide +kernel
theorem dX11_year_29 : decode cX11_year 29 = .ok (.i2l, 1) := by decide +kernel
theorem dX11_year_30 : decode cX11_year 30 = .ok (.invokevirtual 261, 3) := by decide +kernel
theorem dX11_year_33 : decode cX11_year 33 = .ok (.ifCond .eq 6, 3) := by decide +kernel
theorem dX11_year_36 : decode cX11_year 36 = .ok (.iinc 3 1, 3) := by decide +kernel
theorem dX11_year_39 : decode cX11_year 39 = .ok (.iinc 4 1, 3) := by decide +kernel
theorem dX11_year_42 : decode cX11_year 42 = .ok (.goto (-24), 3) := by decide +kernel
theorem dX11_year_45 : decode cX11_year 45 = .ok (.iload_n 3, 1) := by decide +kernel
theorem dX11_year_46 : decode cX11_year 46 = .ok (.ireturn, 1) := by decide +kernel
theorem dX11_drawDeed_0 : decode cX11_drawDeed 0 = .ok (.aload_n 0, 1) := by decide +kernel
theorem dX11_drawDeed_1 : decode cX11_drawDeed 1 = .ok (.bipush 6, 2) := by decide +kernel
theorem dX11_drawDeed_3 : decode cX11_drawDeed 3 = .ok (.invokevirtual 272, 3) := by decide +kernel
theorem dX11_drawDeed_6 : decode cX11_drawDeed 6 = .ok (.istore_n 1, 1) := by decide +kernel
theorem dX11_drawDeed_7 : decode cX11_drawDeed 7 = .ok (.iload_n 1, 1) := by decide +kernel
theorem dX11_drawDeed_8 : decode cX11_drawDeed 8 = .ok (.iconst 2, 1) := by decide +kernel
theorem dX11_drawDeed_9 : decode cX11_drawDeed 9 = .ok (.if_icmp .ge 5, 3) := by decide +kernel
theorem dX11_drawDeed_12 : decode cX11_drawDeed 12 = .ok (.iconst (-1), 1) := by decide +kernel
theorem dX11_drawDeed_13 : decode cX11_drawDeed 13 = .ok (.ireturn, 1) := by decide +kernel
theorem dX11_drawDeed_14 : decode cX11_drawDeed 14 = .ok (.aload_n 0, 1) := by decide +kernel
theorem dX11_drawDeed_15 : decode cX11_drawDeed 15 = .ok (.getfield 34, 3) := by decide +kernel
theorem dX11_drawDeed_18 : decode cX11_drawDeed 18 = .ok (.getfield 131, 3) := by decide +kernel
theorem dX11_drawDeed_21 : decode cX11_drawDeed 21 = .ok (.ifCond .ne 5, 3) := by decide +kernel
theorem dX11_drawDeed_24 : decode cX11_drawDeed 24 = .ok (.iconst 0, 1) := by decide +kernel
theorem dX11_drawDeed_25 : decode cX11_drawDeed 25 = .ok (.ireturn, 1) := by decide +kernel
theorem dX11_drawDeed_26 : decode cX11_drawDeed 26 = .ok (.aload_n 0, 1) := by decide +kernel
theorem dX11_drawDeed_27 : decode cX11_drawDeed 27 = .ok (.aload_n 0, 1) := by decide +kernel
theorem dX11_drawDeed_28 : decode cX11_drawDeed 28 = .ok (.getfield 34, 3) := by decide +kernel
theorem dX11_drawDeed_31 : decode cX11_drawDeed 31 = .ok (.getfield 131, 3) := by decide +kernel
theorem dX11_drawDeed_34 : decode cX11_drawDeed 34 = .ok (.invokevirtual 272, 3) := by decide +kernel
theorem dX11_drawDeed_37 : decode cX11_drawDeed 37 = .ok (.istore_n 2, 1) := by decide +kernel
theorem dX11_drawDeed_38 : decode cX11_drawDeed 38 = .ok (.iload_n 1, 1) := by decide +kernel
theorem dX11_drawDeed_39 : decode cX11_drawDeed 39 = .ok (.tableswitch 53 2 4 #[25, 42, 47], 25) := by decide +kernel
theorem dX11_drawDeed_64 : decode cX11_drawDeed 64 = .ok (.iload_n 2, 1) := by decide +kernel
theorem dX11_drawDeed_65 : decode cX11_drawDeed 65 = .ok (.bipush 10, 2) := by decide +kernel
theorem dX11_drawDeed_67 : decode cX11_drawDeed 67 = .ok (.imul, 1) := by decide +kernel
theorem dX11_drawDeed_68 : decode cX11_drawDeed 68 = .ok (.aload_n 0, 1) := by decide +kernel
theorem dX11_drawDeed_69 : decode cX11_drawDeed 69 = .ok (.aload_n 0, 1) := by decide +kernel
theorem dX11_drawDeed_70 : decode cX11_drawDeed 70 = .ok (.getfield 34, 3) := by decide +kernel
theorem dX11_drawDeed_73 : decode cX11_drawDeed 73 = .ok (.getfield 131, 3) := by decide +kernel
theorem dX11_drawDeed_76 : decode cX11_drawDeed 76 = .ok (.invokevirtual 272, 3) := by decide +kernel
theorem dX11_drawDeed_79 : decode cX11_drawDeed 79 = .ok (.iadd, 1) := by decide +kernel
theorem dX11_drawDeed_80 : decode cX11_drawDeed 80 = .ok (.ireturn, 1) := by decide +kernel
theorem dX11_drawDeed_81 : decode cX11_drawDeed 81 = .ok (.bipush 100, 2) := by decide +kernel
theorem dX11_drawDeed_83 : decode cX11_drawDeed 83 = .ok (.iload_n 2, 1) := by decide +kernel
theorem dX11_drawDeed_84 : decode cX11_drawDeed 84 = .ok (.iadd, 1) := by decide +kernel
theorem dX11_drawDeed_85 : decode cX11_drawDeed 85 = .ok (.ireturn, 1) := by decide +kernel
theorem dX11_drawDeed_86 : decode cX11_drawDeed 86 = .ok (.sipush 200, 3) := by decide +kernel
theorem dX11_drawDeed_89 : decode cX11_drawDeed 89 = .ok (.iload_n 2, 1) := by decide +kernel
theorem dX11_drawDeed_90 : decode cX11_drawDeed 90 = .ok (.iadd, 1) := by decide +kernel
theorem dX11_drawDeed_91 : decode cX11_drawDeed 91 = .ok (.ireturn, 1) := by decide +kernel
theorem dX11_drawDeed_92 : decode cX11_drawDeed 92 = .ok (.sipush 300, 3) := by decide +kernel
theorem dX11_drawDeed_95 : decode cX11_drawDeed 95 = .ok (.iload_n 2, 1) := by decide +kernel
theorem dX11_drawDeed_96 : decode cX11_drawDeed 96 = .ok (.bipush 10, 2) := by decide +kernel
theorem dX11_drawDeed_98 : decode cX11_drawDeed 98 = .ok (.imul, 1) := by decide +kernel
theorem dX11_drawDeed_99 : decode cX11_drawDeed 99 = .ok (.iadd, 1) := by decide +kernel
theorem dX11_drawDeed_100 : decode cX11_drawDeed 100 = .ok (.aload_n 0, 1) := by decide +kernel
theorem dX11_drawDeed_101 : decode cX11_drawDeed 101 = .ok (.aload_n 0, 1) := by decide +kernel
theorem dX11_drawDeed_102 : decode cX11_drawDeed 102 = .ok (.getfield 34, 3) := by decide +kernel
theorem dX11_drawDeed_105 : decode cX11_drawDeed 105 = .ok (.getfield 131, 3) := by decide +kernel
theorem dX11_drawDeed_108 : decode cX11_drawDeed 108 = .ok (.invokevirtual 272, 3) := by decide +kernel
theorem dX11_drawDeed_111 : decode cX11_drawDeed 111 = .ok (.iadd, 1) := by decide +kernel
theorem dX11_drawDeed_112 : decode cX11_drawDeed 112 = .ok (.ireturn, 1) := by decide +kernel
theorem dX11_draw_0 : decode cX11_draw 0 = .ok (.aload_n 0, 1) := by decide +kernel
theorem dX11_draw_1 : decode cX11_draw 1 = .ok (.ldc_w 275, 3) := by decide +kernel
theorem dX11_draw_4 : decode cX11_draw 4 = .ok (.aload_n 0, 1) := by decide +kernel
theorem dX11_draw_5 : decode cX11_draw 5 = .ok (.getfield 265, 3) := by decide +kernel
theorem dX11_draw_8 : decode cX11_draw 8 = .ok (.imul, 1) := by decide +kernel
theorem dX11_draw_9 : decode cX11_draw 9 = .ok (.sipush 12345, 3) := by decide +kernel
theorem dX11_draw_12 : decode cX11_draw 12 = .ok (.iadd, 1) := by decide +kernel
theorem dX11_draw_13 : decode cX11_draw 13 = .ok (.putfield 265, 3) := by decide +kernel
theorem dX11_draw_16 : decode cX11_draw 16 = .ok (.iload_n 1, 1) := by decide +kernel
theorem dX11_draw_17 : decode cX11_draw 17 = .ok (.iconst 1, 1) := by decide +kernel
theorem dX11_draw_18 : decode cX11_draw 18 = .ok (.if_icmp .ge 7, 3) := by decide +kernel
theorem dX11_draw_21 : decode cX11_draw 21 = .ok (.iconst 0, 1) := by decide +kernel
theorem dX11_draw_22 : decode cX11_draw 22 = .ok (.goto 12, 3) := by decide +kernel
theorem dX11_draw_25 : decode cX11_draw 25 = .ok (.aload_n 0, 1) := by decide +kernel
theorem dX11_draw_26 : decode cX11_draw 26 = .ok (.getfield 265, 3) := by decide +kernel
theorem dX11_draw_29 : decode cX11_draw 29 = .ok (.bipush 16, 2) := by decide +kernel
theorem dX11_draw_31 : decode cX11_draw 31 = .ok (.iushr, 1) := by decide +kernel
theorem dX11_draw_32 : decode cX11_draw 32 = .ok (.iload_n 1, 1) := by decide +kernel
theorem dX11_draw_33 : decode cX11_draw 33 = .ok (.irem, 1) := by decide +kernel
theorem dX11_draw_34 : decode cX11_draw 34 = .ok (.ireturn, 1) := by decide +kernel
theorem dX11_couldDo_0 : decode cX11_couldDo 0 = .ok (.aload_n 0, 1) := by decide +kernel
theorem dX11_couldDo_1 : decode cX11_couldDo 1 = .ok (.aload_n 0, 1) := by decide +kernel
theorem dX11_couldDo_2 : decode cX11_couldDo 2 = .ok (.getfield 34, 3) := by decide +kernel
theorem dX11_couldDo_5 : decode cX11_couldDo 5 = .ok (.lload_n 1, 1) := by decide +kernel
theorem dX11_couldDo_6 : decode cX11_couldDo 6 = .ok (.invokevirtual 246, 3) := by decide +kernel
theorem dX11_couldDo_9 : decode cX11_couldDo 9 = .ok (.ifCond .eq 5, 3) := by decide +kernel
theorem dX11_couldDo_12 : decode cX11_couldDo 12 = .ok (.iconst 0, 1) := by decide +kernel
theorem dX11_couldDo_13 : decode cX11_couldDo 13 = .ok (.ireturn, 1) := by decide +kernel
theorem dX11_couldDo_14 : decode cX11_couldDo 14 = .ok (.aload_n 0, 1) := by decide +kernel
theorem dX11_couldDo_15 : decode cX11_couldDo 15 = .ok (.getfield 41, 3) := by decide +kernel
theorem dX11_couldDo_18 : decode cX11_couldDo 18 = .ok (.aload_n 0, 1) := by decide +kernel
theorem dX11_couldDo_19 : decode cX11_couldDo 19 = .ok (.getfield 34, 3) := by decide +kernel
theorem dX11_couldDo_22 : decode cX11_couldDo 22 = .ok (.invokevirtual 196, 3) := by decide +kernel
theorem dX11_couldDo_25 : decode cX11_couldDo 25 = .ok (.aload_n 0, 1) := by decide +kernel
theorem dX11_couldDo_26 : decode cX11_couldDo 26 = .ok (.aload_n 0, 1) := by decide +kernel
theorem dX11_couldDo_27 : decode cX11_couldDo 27 = .ok (.getfield 34, 3) := by decide +kernel
theorem dX11_couldDo_30 : decode cX11_couldDo 30 = .ok (.lload_n 1, 1) := by decide +kernel
theorem dX11_couldDo_31 : decode cX11_couldDo 31 = .ok (.invokevirtual 250, 3) := by decide +kernel
theorem dX11_couldDo_34 : decode cX11_couldDo 34 = .ok (.iconst 1, 1) := by decide +kernel
theorem dX11_couldDo_35 : decode cX11_couldDo 35 = .ok (.ireturn, 1) := by decide +kernel
theorem dX11_whyNot_0 : decode cX11_whyNot 0 = .ok (.lload_n 2, 1) := by decide +kernel
theorem dX11_whyNot_1 : decode cX11_whyNot 1 = .ok (.ldc2_w 276, 3) := by decide +kernel
theorem dX11_whyNot_4 : decode cX11_whyNot 4 = .ok (.lcmp, 1) := by decide +kernel
theorem dX11_whyNot_5 : decode cX11_whyNot 5 = .ok (.ifCond .ne 5, 3) := by decide +kernel
theorem dX11_whyNot_8 : decode cX11_whyNot 8 = .ok (.iconst 0, 1) := by decide +kernel
theorem dX11_whyNot_9 : decode cX11_whyNot 9 = .ok (.ireturn, 1) := by decide +kernel
theorem dX11_whyNot_10 : decode cX11_whyNot 10 = .ok (.lload_n 2, 1) := by decide +kernel
theorem dX11_whyNot_11 : decode cX11_whyNot 11 = .ok (.lconst 0, 1) := by decide +kernel
theorem dX11_whyNot_12 : decode cX11_whyNot 12 = .ok (.lcmp, 1) := by decide +kernel
theorem dX11_whyNot_13 : decode cX11_whyNot 13 = .ok (.ifCond .lt 11, 3) := by decide +kernel
theorem dX11_whyNot_16 : decode cX11_whyNot 16 = .ok (.lload_n 2, 1) := by decide +kernel
theorem dX11_whyNot_17 : decode cX11_whyNot 17 = .ok (.ldc2_w 278, 3) := by decide +kernel
theorem dX11_whyNot_20 : decode cX11_whyNot 20 = .ok (.lcmp, 1) := by decide +kernel
theorem dX11_whyNot_21 : decode cX11_whyNot 21 = .ok (.ifCond .le 5, 3) := by decide +kernel
theorem dX11_whyNot_24 : decode cX11_whyNot 24 = .ok (.iconst 1, 1) := by decide +kernel
theorem dX11_whyNot_25 : decode cX11_whyNot 25 = .ok (.ireturn, 1) := by decide +kernel
theorem dX11_whyNot_26 : decode cX11_whyNot 26 = .ok (.lload_n 2, 1) := by decide +kernel
theorem dX11_whyNot_27 : decode cX11_whyNot 27 = .ok (.ldc2_w 280, 3) := by decide +kernel
theorem dX11_whyNot_30 : decode cX11_whyNot 30 = .ok (.ldiv, 1) := by decide +kernel
theorem dX11_whyNot_31 : decode cX11_whyNot 31 = .ok (.l2i, 1) := by decide +kernel
theorem dX11_whyNot_32 : decode cX11_whyNot 32 = .ok (.istore 4, 2) := by decide +kernel
theorem dX11_whyNot_34 : decode cX11_whyNot 34 = .ok (.lload_n 2, 1) := by decide +kernel
theorem dX11_whyNot_35 : decode cX11_whyNot 35 = .ok (.ldc2_w 282, 3) := by decide +kernel
theorem dX11_whyNot_38 : decode cX11_whyNot 38 = .ok (.ldiv, 1) := by decide +kernel
theorem dX11_whyNot_39 : decode cX11_whyNot 39 = .ok (.ldc2_w 282, 3) := by decide +kernel
theorem dX11_whyNot_42 : decode cX11_whyNot 42 = .ok (.lrem, 1) := by decide +kernel
theorem dX11_whyNot_43 : decode cX11_whyNot 43 = .ok (.l2i, 1) := by decide +kernel
theorem dX11_whyNot_44 : decode cX11_whyNot 44 = .ok (.istore 5, 2) := by decide +kernel
theorem dX11_whyNot_46 : decode cX11_whyNot 46 = .ok (.lload_n 2, 1) := by decide +kernel
theorem dX11_whyNot_47 : decode cX11_whyNot 47 = .ok (.ldc2_w 282, 3) := by decide +kernel
theorem dX11_whyNot_50 : decode cX11_whyNot 50 = .ok (.lrem, 1) := by decide +kernel
theorem dX11_whyNot_51 : decode cX11_whyNot 51 = .ok (.l2i, 1) := by decide +kernel
theorem dX11_whyNot_52 : decode cX11_whyNot 52 = .ok (.istore 6, 2) := by decide +kernel
theorem dX11_whyNot_54 : decode cX11_whyNot 54 = .ok (.iload 4, 2) := by decide +kernel
theorem dX11_whyNot_56 : decode cX11_whyNot 56 = .ok (.tableswitch 73 0 2 #[28, 37, 57], 28) := by decide +kernel
theorem dX11_whyNot_84 : decode cX11_whyNot 84 = .ok (.aload_n 1, 1) := by decide +kernel
theorem dX11_whyNot_85 : decode cX11_whyNot 85 = .ok (.iload 5, 2) := by decide +kernel
theorem dX11_whyNot_87 : decode cX11_whyNot 87 = .ok (.iload 6, 2) := by decide +kernel
theorem dX11_whyNot_89 : decode cX11_whyNot 89 = .ok (.invokevirtual 193, 3) := by decide +kernel
theorem dX11_whyNot_92 : decode cX11_whyNot 92 = .ok (.ireturn, 1) := by decide +kernel
theorem dX11_whyNot_93 : decode cX11_whyNot 93 = .ok (.iload 5, 2) := by decide +kernel
theorem dX11_whyNot_95 : decode cX11_whyNot 95 = .ok (.ifCond .ne 16, 3) := by decide +kernel
theorem dX11_whyNot_98 : decode cX11_whyNot 98 = .ok (.aload_n 1, 1) := by decide +kernel
theorem dX11_whyNot_99 : decode cX11_whyNot 99 = .ok (.iload 6, 2) := by decide +kernel
theorem dX11_whyNot_101 : decode cX11_whyNot 101 = .ok (.invokevirtual 174, 3) := by decide +kernel
theorem dX11_whyNot_104 : decode cX11_whyNot 104 = .ok (.ifCond .eq 7, 3) := by decide +kernel
theorem dX11_whyNot_107 : decode cX11_whyNot 107 = .ok (.iconst 0, 1) := by decide +kernel
theorem dX11_whyNot_108 : decode cX11_whyNot 108 = .ok (.goto 4, 3) := by decide +kernel
theorem dX11_whyNot_111 : decode cX11_whyNot 111 = .ok (.iconst 1, 1) := by decide +kernel
theorem dX11_whyNot_112 : decode cX11_whyNot 112 = .ok (.ireturn, 1) := by decide +kernel
theorem dX11_whyNot_113 : decode cX11_whyNot 113 = .ok (.iload 5, 2) := by decide +kernel
theorem dX11_whyNot_115 : decode cX11_whyNot 115 = .ok (.ifCond .ne 12, 3) := by decide +kernel
theorem dX11_whyNot_118 : decode cX11_whyNot 118 = .ok (.aload_n 1, 1) := by decide +kernel
theorem dX11_whyNot_119 : decode cX11_whyNot 119 = .ok (.iload 6, 2) := by decide +kernel
theorem dX11_whyNot_121 : decode cX11_whyNot 121 = .ok (.invokevirtual 210, 3) := by decide +kernel
theorem dX11_whyNot_124 : decode cX11_whyNot 124 = .ok (.goto 4, 3) := by decide +kernel
theorem dX11_whyNot_127 : decode cX11_whyNot 127 = .ok (.iconst 1, 1) := by decide +kernel
theorem dX11_whyNot_128 : decode cX11_whyNot 128 = .ok (.ireturn, 1) := by decide +kernel
theorem dX11_whyNot_129 : decode cX11_whyNot 129 = .ok (.aload_n 1, 1) := by decide +kernel
theorem dX11_whyNot_130 : decode cX11_whyNot 130 = .ok (.iload 5, 2) := by decide +kernel
theorem dX11_whyNot_132 : decode cX11_whyNot 132 = .ok (.iload 6, 2) := by decide +kernel
theorem dX11_whyNot_134 : decode cX11_whyNot 134 = .ok (.bipush 10, 2) := by decide +kernel
theorem dX11_whyNot_136 : decode cX11_whyNot 136 = .ok (.invokevirtual 203, 3) := by decide +kernel
theorem dX11_whyNot_139 : decode cX11_whyNot 139 = .ok (.ireturn, 1) := by decide +kernel
theorem dX11_carryOut_0 : decode cX11_carryOut 0 = .ok (.lload_n 2, 1) := by decide +kernel
theorem dX11_carryOut_1 : decode cX11_carryOut 1 = .ok (.lconst 0, 1) := by decide +kernel
theorem dX11_carryOut_2 : decode cX11_carryOut 2 = .ok (.lcmp, 1) := by decide +kernel
theorem dX11_carryOut_3 : decode cX11_carryOut 3 = .ok (.ifCond .ge 23, 3) := by decide +kernel
theorem dX11_carryOut_6 : decode cX11_carryOut 6 = .ok (.aload_n 0, 1) := by decide +kernel
theorem dX11_carryOut_7 : decode cX11_carryOut 7 = .ok (.getfield 62, 3) := by decide +kernel
theorem dX11_carryOut_10 : decode cX11_carryOut 10 = .ok (.aload_n 0, 1) := by decide +kernel
theorem dX11_carryOut_11 : decode cX11_carryOut 11 = .ok (.getfield 20, 3) := by decide +kernel
theorem dX11_carryOut_14 : decode cX11_carryOut 14 = .ok (.aload_n 1, 1) := by decide +kernel
theorem dX11_carryOut_15 : decode cX11_carryOut 15 = .ok (.aload_n 0, 1) := by decide +kernel
theorem dX11_carryOut_16 : decode cX11_carryOut 16 = .ok (.getfield 20, 3) := by decide +kernel
theorem dX11_carryOut_19 : decode cX11_carryOut 19 = .ok (.getfield 217, 3) := by decide +kernel
theorem dX11_carryOut_22 : decode cX11_carryOut 22 = .ok (.invokevirtual 220, 3) := by decide +kernel
theorem dX11_carryOut_25 : decode cX11_carryOut 25 = .ok (.return_, 1) := by decide +kernel
theorem dX11_carryOut_26 : decode cX11_carryOut 26 = .ok (.lload_n 2, 1) := by decide +kernel
theorem dX11_carryOut_27 : decode cX11_carryOut 27 = .ok (.ldc2_w 280, 3) := by decide +kernel
theorem dX11_carryOut_30 : decode cX11_carryOut 30 = .ok (.ldiv, 1) := by decide +kernel
theorem dX11_carryOut_31 : decode cX11_carryOut 31 = .ok (.l2i, 1) := by decide +kernel
theorem dX11_carryOut_32 : decode cX11_carryOut 32 = .ok (.istore 4, 2) := by decide +kernel
theorem dX11_carryOut_34 : decode cX11_carryOut 34 = .ok (.lload_n 2, 1) := by decide +kernel
theorem dX11_carryOut_35 : decode cX11_carryOut 35 = .ok (.ldc2_w 282, 3) := by decide +kernel
theorem dX11_carryOut_38 : decode cX11_carryOut 38 = .ok (.ldiv, 1) := by decide +kernel
theorem dX11_carryOut_39 : decode cX11_carryOut 39 = .ok (.ldc2_w 282, 3) := by decide +kernel
theorem dX11_carryOut_42 : decode cX11_carryOut 42 = .ok (.lrem, 1) := by decide +kernel
theorem dX11_carryOut_43 : decode cX11_carryOut 43 = .ok (.l2i, 1) := by decide +kernel
theorem dX11_carryOut_44 : decode cX11_carryOut 44 = .ok (.istore 5, 2) := by decide +kernel
theorem dX11_carryOut_46 : decode cX11_carryOut 46 = .ok (.lload_n 2, 1) := by decide +kernel
theorem dX11_carryOut_47 : decode cX11_carryOut 47 = .ok (.ldc2_w 282, 3) := by decide +kernel
theorem dX11_carryOut_50 : decode cX11_carryOut 50 = .ok (.lrem, 1) := by decide +kernel
theorem dX11_carryOut_51 : decode cX11_carryOut 51 = .ok (.l2i, 1) := by decide +kernel
theorem dX11_carryOut_52 : decode cX11_carryOut 52 = .ok (.istore 6, 2) := by decide +kernel
theorem dX11_carryOut_54 : decode cX11_carryOut 54 = .ok (.iload 4, 2) := by decide +kernel
theorem dX11_carryOut_56 : decode cX11_carryOut 56 = .ok (.ifCond .ne 14, 3) := by decide +kernel
theorem dX11_carryOut_59 : decode cX11_carryOut 59 = .ok (.aload_n 1, 1) := by decide +kernel
theorem dX11_carryOut_60 : decode cX11_carryOut 60 = .ok (.iload 5, 2) := by decide +kernel
theorem dX11_carryOut_62 : decode cX11_carryOut 62 = .ok (.iload 6, 2) := by decide +kernel
theorem dX11_carryOut_64 : decode cX11_carryOut 64 = .ok (.invokevirtual 199, 3) := by decide +kernel
theorem dX11_carryOut_67 : decode cX11_carryOut 67 = .ok (.goto 57, 3) := by decide +kernel
theorem dX11_carryOut_70 : decode cX11_carryOut 70 = .ok (.iload 4, 2) := by decide +kernel
theorem dX11_carryOut_72 : decode cX11_carryOut 72 = .ok (.iconst 1, 1) := by decide +kernel
theorem dX11_carryOut_73 : decode cX11_carryOut 73 = .ok (.if_icmp .ne 23, 3) := by decide +kernel
theorem dX11_carryOut_76 : decode cX11_carryOut 76 = .ok (.aload_n 1, 1) := by decide +kernel
theorem dX11_carryOut_77 : decode cX11_carryOut 77 = .ok (.iload 6, 2) := by decide +kernel
theorem dX11_carryOut_79 : decode cX11_carryOut 79 = .ok (.invokevirtual 174, 3) := by decide +kernel
theorem dX11_carryOut_82 : decode cX11_carryOut 82 = .ok (.ifCond .eq 14, 3) := by decide +kernel
theorem dX11_carryOut_85 : decode cX11_carryOut 85 = .ok (.aload_n 1, 1) := by decide +kernel
theorem dX11_carryOut_86 : decode cX11_carryOut 86 = .ok (.getfield 128, 3) := by decide +kernel
theorem dX11_carryOut_89 : decode cX11_carryOut 89 = .ok (.iload 6, 2) := by decide +kernel
theorem dX11_carryOut_91 : decode cX11_carryOut 91 = .ok (.iconst 4, 1) := by decide +kernel
theorem dX11_carryOut_92 : decode cX11_carryOut 92 = .ok (.iastore, 1) := by decide +kernel
theorem dX11_carryOut_93 : decode cX11_carryOut 93 = .ok (.goto 31, 3) := by decide +kernel
theorem dX11_carryOut_96 : decode cX11_carryOut 96 = .ok (.iload 4, 2) := by decide +kernel
theorem dX11_carryOut_98 : decode cX11_carryOut 98 = .ok (.iconst 2, 1) := by decide +kernel
theorem dX11_carryOut_99 : decode cX11_carryOut 99 = .ok (.if_icmp .ne 15, 3) := by decide +kernel
theorem dX11_carryOut_102 : decode cX11_carryOut 102 = .ok (.aload_n 1, 1) := by decide +kernel
theorem dX11_carryOut_103 : decode cX11_carryOut 103 = .ok (.iload 6, 2) := by decide +kernel
theorem dX11_carryOut_105 : decode cX11_carryOut 105 = .ok (.ldc 161, 2) := by decide +kernel
theorem dX11_carryOut_107 : decode cX11_carryOut 107 = .ok (.invokevirtual 214, 3) := by decide +kernel
theorem dX11_carryOut_110 : decode cX11_carryOut 110 = .ok (.pop, 1) := by decide +kernel
theorem dX11_carryOut_111 : decode cX11_carryOut 111 = .ok (.goto 13, 3) := by decide +kernel
theorem dX11_carryOut_114 : decode cX11_carryOut 114 = .ok (.aload_n 1, 1) := by decide +kernel
theorem dX11_carryOut_115 : decode cX11_carryOut 115 = .ok (.iload 5, 2) := by decide +kernel
theorem dX11_carryOut_117 : decode cX11_carryOut 117 = .ok (.iload 6, 2) := by decide +kernel
theorem dX11_carryOut_119 : decode cX11_carryOut 119 = .ok (.bipush 10, 2) := by decide +kernel
theorem dX11_carryOut_121 : decode cX11_carryOut 121 = .ok (.invokevirtual 207, 3) := by decide +kernel
theorem dX11_carryOut_124 : decode cX11_carryOut 124 = .ok (.return_, 1) := by decide +kernel
theorem dX11_debtIn_0 : decode cX11_debtIn 0 = .ok (.aload_n 0, 1) := by decide +kernel
theorem dX11_debtIn_1 : decode cX11_debtIn 1 = .ok (.iload_n 1, 1) := by decide +kernel
theorem dX11_debtIn_2 : decode cX11_debtIn 2 = .ok (.invokevirtual 121, 3) := by decide +kernel
theorem dX11_debtIn_5 : decode cX11_debtIn 5 = .ok (.aload_n 0, 1) := by decide +kernel
theorem dX11_debtIn_6 : decode cX11_debtIn 6 = .ok (.iload_n 2, 1) := by decide +kernel
theorem dX11_debtIn_7 : decode cX11_debtIn 7 = .ok (.invokevirtual 284, 3) := by decide +kernel
theorem dX11_debtIn_10 : decode cX11_debtIn 10 = .ok (.getfield 124, 3) := by decide +kernel
theorem dX11_debtIn_13 : decode cX11_debtIn 13 = .ok (.iload_n 1, 1) := by decide +kernel
theorem dX11_debtIn_14 : decode cX11_debtIn 14 = .ok (.iaload, 1) := by decide +kernel
theorem dX11_debtIn_15 : decode cX11_debtIn 15 = .ok (.ireturn, 1) := by decide +kernel
theorem dX11_cashIn_0 : decode cX11_cashIn 0 = .ok (.aload_n 0, 1) := by decide +kernel
theorem dX11_cashIn_1 : decode cX11_cashIn 1 = .ok (.iload_n 1, 1) := by decide +kernel
theorem dX11_cashIn_2 : decode cX11_cashIn 2 = .ok (.invokevirtual 121, 3) := by decide +kernel
theorem dX11_cashIn_5 : decode cX11_cashIn 5 = .ok (.aload_n 0, 1) := by decide +kernel
theorem dX11_cashIn_6 : decode cX11_cashIn 6 = .ok (.iload_n 2, 1) := by decide +kernel
theorem dX11_cashIn_7 : decode cX11_cashIn 7 = .ok (.invokevirtual 284, 3) := by decide +kernel
theorem dX11_cashIn_10 : decode cX11_cashIn 10 = .ok (.getfield 146, 3) := by decide +kernel
theorem dX11_cashIn_13 : decode cX11_cashIn 13 = .ok (.iload_n 1, 1) := by decide +kernel
theorem dX11_cashIn_14 : decode cX11_cashIn 14 = .ok (.iaload, 1) := by decide +kernel
theorem dX11_cashIn_15 : decode cX11_cashIn 15 = .ok (.ireturn, 1) := by decide +kernel
theorem dX11_seaIn_0 : decode cX11_seaIn 0 = .ok (.aload_n 0, 1) := by decide +kernel
theorem dX11_seaIn_1 : decode cX11_seaIn 1 = .ok (.iload_n 1, 1) := by decide +kernel
theorem dX11_seaIn_2 : decode cX11_seaIn 2 = .ok (.invokevirtual 284, 3) := by decide +kernel
theorem dX11_seaIn_5 : decode cX11_seaIn 5 = .ok (.getfield 288, 3) := by decide +kernel
theorem dX11_seaIn_8 : decode cX11_seaIn 8 = .ok (.ireturn, 1) := by decide +kernel
theorem dX11_streetIn_0 : decode cX11_streetIn 0 = .ok (.aload_n 0, 1) := by decide +kernel
theorem dX11_streetIn_1 : decode cX11_streetIn 1 = .ok (.iload_n 1, 1) := by decide +kernel
theorem dX11_streetIn_2 : decode cX11_streetIn 2 = .ok (.iconst 0, 1) := by decide +kernel
theorem dX11_streetIn_3 : decode cX11_streetIn 3 = .ok (.sipush 200, 3) := by decide +kernel
theorem dX11_streetIn_6 : decode cX11_streetIn 6 = .ok (.invokevirtual 162, 3) := by decide +kernel
theorem dX11_streetIn_9 : decode cX11_streetIn 9 = .ok (.aload_n 0, 1) := by decide +kernel
theorem dX11_streetIn_10 : decode cX11_streetIn 10 = .ok (.getfield 62, 3) := by decide +kernel
theorem dX11_streetIn_13 : decode cX11_streetIn 13 = .ok (.aload_n 0, 1) := by decide +kernel
theorem dX11_streetIn_14 : decode cX11_streetIn 14 = .ok (.getfield 20, 3) := by decide +kernel
theorem dX11_streetIn_17 : decode cX11_streetIn 17 = .ok (.aload_n 0, 1) := by decide +kernel
theorem dX11_streetIn_18 : decode cX11_streetIn 18 = .ok (.getfield 34, 3) := by decide +kernel
theorem dX11_streetIn_21 : decode cX11_streetIn 21 = .ok (.invokevirtual 237, 3) := by decide +kernel
theorem dX11_streetIn_24 : decode cX11_streetIn 24 = .ok (.astore_n 2, 1) := by decide +kernel
theorem dX11_streetIn_25 : decode cX11_streetIn 25 = .ok (.iconst 0, 1) := by decide +kernel
theorem dX11_streetIn_26 : decode cX11_streetIn 26 = .ok (.istore_n 3, 1) := by decide +kernel
theorem dX11_streetIn_27 : decode cX11_streetIn 27 = .ok (.iload_n 3, 1) := by decide +kernel
theorem dX11_streetIn_28 : decode cX11_streetIn 28 = .ok (.iload_n 1, 1) := by decide +kernel
theorem dX11_streetIn_29 : decode cX11_streetIn 29 = .ok (.if_icmp .ge 28, 3) := by decide +kernel
theorem dX11_streetIn_32 : decode cX11_streetIn 32 = .ok (.aload_n 0, 1) := by decide +kernel
theorem dX11_streetIn_33 : decode cX11_streetIn 33 = .ok (.getfield 62, 3) := by decide +kernel
theorem dX11_streetIn_36 : decode cX11_streetIn 36 = .ok (.aload_n 0, 1) := by decide +kernel
theorem dX11_streetIn_37 : decode cX11_streetIn 37 = .ok (.getfield 20, 3) := by decide +kernel
theorem dX11_streetIn_40 : decode cX11_streetIn 40 = .ok (.aload_n 2, 1) := by decide +kernel
theorem dX11_streetIn_41 : decode cX11_streetIn 41 = .ok (.aload_n 0, 1) := by decide +kernel
theorem dX11_streetIn_42 : decode cX11_streetIn 42 = .ok (.getfield 20, 3) := by decide +kernel
theorem dX11_streetIn_45 : decode cX11_streetIn 45 = .ok (.getfield 217, 3) := by decide +kernel
theorem dX11_streetIn_48 : decode cX11_streetIn 48 = .ok (.invokevirtual 220, 3) := by decide +kernel
theorem dX11_streetIn_51 : decode cX11_streetIn 51 = .ok (.iinc 3 1, 3) := by decide +kernel
theorem dX11_streetIn_54 : decode cX11_streetIn 54 = .ok (.goto (-27), 3) := by decide +kernel
theorem dX11_streetIn_57 : decode cX11_streetIn 57 = .ok (.aload_n 2, 1) := by decide +kernel
theorem dX11_streetIn_58 : decode cX11_streetIn 58 = .ok (.areturn, 1) := by decide +kernel
theorem dX11_ruinIn_0 : decode cX11_ruinIn 0 = .ok (.aload_n 0, 1) := by decide +kernel
theorem dX11_ruinIn_1 : decode cX11_ruinIn 1 = .ok (.iload_n 1, 1) := by decide +kernel
theorem dX11_ruinIn_2 : decode cX11_ruinIn 2 = .ok (.invokevirtual 121, 3) := by decide +kernel
theorem dX11_ruinIn_5 : decode cX11_ruinIn 5 = .ok (.aload_n 0, 1) := by decide +kernel
theorem dX11_ruinIn_6 : decode cX11_ruinIn 6 = .ok (.getfield 62, 3) := by decide +kernel
theorem dX11_ruinIn_9 : decode cX11_ruinIn 9 = .ok (.aload_n 0, 1) := by decide +kernel
theorem dX11_ruinIn_10 : decode cX11_ruinIn 10 = .ok (.getfield 20, 3) := by decide +kernel
theorem dX11_ruinIn_13 : decode cX11_ruinIn 13 = .ok (.aload_n 0, 1) := by decide +kernel
theorem dX11_ruinIn_14 : decode cX11_ruinIn 14 = .ok (.getfield 34, 3) := by decide +kernel
theorem dX11_ruinIn_17 : decode cX11_ruinIn 17 = .ok (.invokevirtual 237, 3) := by decide +kernel
theorem dX11_ruinIn_20 : decode cX11_ruinIn 20 = .ok (.astore_n 2, 1) := by decide +kernel
theorem dX11_ruinIn_21 : decode cX11_ruinIn 21 = .ok (.iconst 0, 1) := by decide +kernel
theorem dX11_ruinIn_22 : decode cX11_ruinIn 22 = .ok (.istore_n 3, 1) := by decide +kernel
theorem dX11_ruinIn_23 : decode cX11_ruinIn 23 = .ok (.iload_n 3, 1) := by decide +kernel
theorem dX11_ruinIn_24 : decode cX11_ruinIn 24 = .ok (.sipush 200, 3) := by decide +kernel
theorem dX11_ruinIn_27 : decode cX11_ruinIn 27 = .ok (.if_icmp .gt 38, 3) := by decide +kernel
theorem dX11_ruinIn_30 : decode cX11_ruinIn 30 = .ok (.aload_n 2, 1) := by decide +kernel
theorem dX11_ruinIn_31 : decode cX11_ruinIn 31 = .ok (.iload_n 1, 1) := by decide +kernel
theorem dX11_ruinIn_32 : decode cX11_ruinIn 32 = .ok (.invokevirtual 183, 3) := by decide +kernel
theorem dX11_ruinIn_35 : decode cX11_ruinIn 35 = .ok (.ifCond .eq 5, 3) := by decide +kernel
theorem dX11_ruinIn_38 : decode cX11_ruinIn 38 = .ok (.iload_n 3, 1) := by decide +kernel
theorem dX11_ruinIn_39 : decode cX11_ruinIn 39 = .ok (.ireturn, 1) := by decide +kernel
theorem dX11_ruinIn_40 : decode cX11_ruinIn 40 = .ok (.aload_n 0, 1) := by decide +kernel
theorem dX11_ruinIn_41 : decode cX11_ruinIn 41 = .ok (.getfield 62, 3) := by decide +kernel
theorem dX11_ruinIn_44 : decode cX11_ruinIn 44 = .ok (.aload_n 0, 1) := by decide +kernel
theorem dX11_ruinIn_45 : decode cX11_ruinIn 45 = .ok (.getfield 20, 3) := by decide +kernel
theorem dX11_ruinIn_48 : decode cX11_ruinIn 48 = .ok (.aload_n 2, 1) := by decide +kernel
theorem dX11_ruinIn_49 : decode cX11_ruinIn 49 = .ok (.aload_n 0, 1) := by decide +kernel
theorem dX11_ruinIn_50 : decode cX11_ruinIn 50 = .ok (.getfield 20, 3) := by decide +kernel
theorem dX11_ruinIn_53 : decode cX11_ruinIn 53 = .ok (.getfield 217, 3) := by decide +kernel
theorem dX11_ruinIn_56 : decode cX11_ruinIn 56 = .ok (.invokevirtual 220, 3) := by decide +kernel
theorem dX11_ruinIn_59 : decode cX11_ruinIn 59 = .ok (.iinc 3 1, 3) := by decide +kernel
theorem dX11_ruinIn_62 : decode cX11_ruinIn 62 = .ok (.goto (-39), 3) := by decide +kernel
theorem dX11_ruinIn_65 : decode cX11_ruinIn 65 = .ok (.iconst (-1), 1) := by decide +kernel
theorem dX11_ruinIn_66 : decode cX11_ruinIn 66 = .ok (.ireturn, 1) := by decide +kernel
theorem dX11_lost_0 : decode cX11_lost 0 = .ok (.aload_n 0, 1) := by decide +kernel
theorem dX11_lost_1 : decode cX11_lost 1 = .ok (.iload_n 1, 1) := by decide +kernel
theorem dX11_lost_2 : decode cX11_lost 2 = .ok (.invokevirtual 291, 3) := by decide +kernel
theorem dX11_lost_5 : decode cX11_lost 5 = .ok (.aload_n 0, 1) := by decide +kernel
theorem dX11_lost_6 : decode cX11_lost 6 = .ok (.iload_n 1, 1) := by decide +kernel
theorem dX11_lost_7 : decode cX11_lost 7 = .ok (.invokevirtual 294, 3) := by decide +kernel
theorem dX11_lost_10 : decode cX11_lost 10 = .ok (.ireturn, 1) := by decide +kernel
theorem dX11_clear_0 : decode cX11_clear 0 = .ok (.aload_n 0, 1) := by decide +kernel
theorem dX11_clear_1 : decode cX11_clear 1 = .ok (.getfield 62, 3) := by decide +kernel
theorem dX11_clear_4 : decode cX11_clear 4 = .ok (.aload_n 0, 1) := by decide +kernel
theorem dX11_clear_5 : decode cX11_clear 5 = .ok (.getfield 20, 3) := by decide +kernel
theorem dX11_clear_8 : decode cX11_clear 8 = .ok (.aload_n 0, 1) := by decide +kernel
theorem dX11_clear_9 : decode cX11_clear 9 = .ok (.getfield 34, 3) := by decide +kernel
theorem dX11_clear_12 : decode cX11_clear 12 = .ok (.invokevirtual 237, 3) := by decide +kernel
theorem dX11_clear_15 : decode cX11_clear 15 = .ok (.astore_n 1, 1) := by decide +kernel
theorem dX11_clear_16 : decode cX11_clear 16 = .ok (.iconst 0, 1) := by decide +kernel
theorem dX11_clear_17 : decode cX11_clear 17 = .ok (.istore_n 2, 1) := by decide +kernel
theorem dX11_clear_18 : decode cX11_clear 18 = .ok (.iload_n 2, 1) := by decide +kernel
theorem dX11_clear_19 : decode cX11_clear 19 = .ok (.sipush 200, 3) := by decide +kernel
theorem dX11_clear_22 : decode cX11_clear 22 = .ok (.if_icmp .gt 41, 3) := by decide +kernel
theorem dX11_clear_25 : decode cX11_clear 25 = .ok (.aload_n 1, 1) := by decide +kernel
theorem dX11_clear_26 : decode cX11_clear 26 = .ok (.aload_n 1, 1) := by decide +kernel
theorem dX11_clear_27 : decode cX11_clear 27 = .ok (.getfield 124, 3) := by decide +kernel
theorem dX11_clear_30 : decode cX11_clear 30 = .ok (.invokevirtual 254, 3) := by decide +kernel
theorem dX11_clear_33 : decode cX11_clear 33 = .ok (.ifCond .ne 5, 3) := by decide +kernel
theorem dX11_clear_36 : decode cX11_clear 36 = .ok (.iload_n 2, 1) := by decide +kernel
theorem dX11_clear_37 : decode cX11_clear 37 = .ok (.ireturn, 1) := by decide +kernel
theorem dX11_clear_38 : decode cX11_clear 38 = .ok (.aload_n 0, 1) := by decide +kernel
theorem dX11_clear_39 : decode cX11_clear 39 = .ok (.getfield 62, 3) := by decide +kernel
theorem dX11_clear_42 : decode cX11_clear 42 = .ok (.aload_n 0, 1) := by decide +kernel
theorem dX11_clear_43 : decode cX11_clear 43 = .ok (.getfield 20, 3) := by decide +kernel
theorem dX11_clear_46 : decode cX11_clear 46 = .ok (.aload_n 1, 1) := by decide +kernel
theorem dX11_clear_47 : decode cX11_clear 47 = .ok (.aload_n 0, 1) := by decide +kernel
theorem dX11_clear_48 : decode cX11_clear 48 = .ok (.getfield 20, 3) := by decide +kernel
theorem dX11_clear_51 : decode cX11_clear 51 = .ok (.getfield 217, 3) := by decide +kernel
theorem dX11_clear_54 : decode cX11_clear 54 = .ok (.invokevirtual 220, 3) := by decide +kernel
theorem dX11_clear_57 : decode cX11_clear 57 = .ok (.iinc 2 1, 3) := by decide +kernel
theorem dX11_clear_60 : decode cX11_clear 60 = .ok (.goto (-42), 3) := by decide +kernel
theorem dX11_clear_63 : decode cX11_clear 63 = .ok (.iconst (-1), 1) := by decide +kernel
theorem dX11_clear_64 : decode cX11_clear 64 = .ok (.ireturn, 1) := by decide +kernel
theorem dX11_burden_0 : decode cX11_burden 0 = .ok (.aload_n 0, 1) := by decide +kernel
theorem dX11_burden_1 : decode cX11_burden 1 = .ok (.iload_n 1, 1) := by decide +kernel
theorem dX11_burden_2 : decode cX11_burden 2 = .ok (.invokevirtual 121, 3) := by decide +kernel
theorem dX11_burden_5 : decode cX11_burden 5 = .ok (.aload_n 0, 1) := by decide +kernel
theorem dX11_burden_6 : decode cX11_burden 6 = .ok (.iload_n 2, 1) := by decide +kernel
theorem dX11_burden_7 : decode cX11_burden 7 = .ok (.invokevirtual 291, 3) := by decide +kernel
theorem dX11_burden_10 : decode cX11_burden 10 = .ok (.aload_n 0, 1) := by decide +kernel
theorem dX11_burden_11 : decode cX11_burden 11 = .ok (.getfield 62, 3) := by decide +kernel
theorem dX11_burden_14 : decode cX11_burden 14 = .ok (.aload_n 0, 1) := by decide +kernel
theorem dX11_burden_15 : decode cX11_burden 15 = .ok (.getfield 20, 3) := by decide +kernel
theorem dX11_burden_18 : decode cX11_burden 18 = .ok (.aload_n 0, 1) := by decide +kernel
theorem dX11_burden_19 : decode cX11_burden 19 = .ok (.getfield 34, 3) := by decide +kernel
theorem dX11_burden_22 : decode cX11_burden 22 = .ok (.invokevirtual 237, 3) := by decide +kernel
theorem dX11_burden_25 : decode cX11_burden 25 = .ok (.pop, 1) := by decide +kernel
theorem dX11_burden_26 : decode cX11_burden 26 = .ok (.aload_n 0, 1) := by decide +kernel
theorem dX11_burden_27 : decode cX11_burden 27 = .ok (.getfield 62, 3) := by decide +kernel
theorem dX11_burden_30 : decode cX11_burden 30 = .ok (.iload_n 2, 1) := by decide +kernel
theorem dX11_burden_31 : decode cX11_burden 31 = .ok (.invokevirtual 297, 3) := by decide +kernel
theorem dX11_burden_34 : decode cX11_burden 34 = .ok (.aload_n 0, 1) := by decide +kernel
theorem dX11_burden_35 : decode cX11_burden 35 = .ok (.getfield 62, 3) := by decide +kernel
theorem dX11_burden_38 : decode cX11_burden 38 = .ok (.getfield 300, 3) := by decide +kernel
theorem dX11_burden_41 : decode cX11_burden 41 = .ok (.iload_n 1, 1) := by decide +kernel
theorem dX11_burden_42 : decode cX11_burden 42 = .ok (.laload, 1) := by decide +kernel
theorem dX11_burden_43 : decode cX11_burden 43 = .ok (.lreturn, 1) := by decide +kernel
theorem dX11_heaviest_0 : decode cX11_heaviest 0 = .ok (.aload_n 0, 1) := by decide +kernel
theorem dX11_heaviest_1 : decode cX11_heaviest 1 = .ok (.iload_n 1, 1) := by decide +kernel
theorem dX11_heaviest_2 : decode cX11_heaviest 2 = .ok (.invokevirtual 291, 3) := by decide +kernel
theorem dX11_heaviest_5 : decode cX11_heaviest 5 = .ok (.aload_n 0, 1) := by decide +kernel
theorem dX11_heaviest_6 : decode cX11_heaviest 6 = .ok (.getfield 62, 3) := by decide +kernel
theorem dX11_heaviest_9 : decode cX11_heaviest 9 = .ok (.aload_n 0, 1) := by decide +kernel
theorem dX11_heaviest_10 : decode cX11_heaviest 10 = .ok (.getfield 20, 3) := by decide +kernel
theorem dX11_heaviest_13 : decode cX11_heaviest 13 = .ok (.aload_n 0, 1) := by decide +kernel
theorem dX11_heaviest_14 : decode cX11_heaviest 14 = .ok (.getfield 34, 3) := by decide +kernel
theorem dX11_heaviest_17 : decode cX11_heaviest 17 = .ok (.invokevirtual 237, 3) := by decide +kernel
theorem dX11_heaviest_20 : decode cX11_heaviest 20 = .ok (.pop, 1) := by decide +kernel
theorem dX11_heaviest_21 : decode cX11_heaviest 21 = .ok (.aload_n 0, 1) := by decide +kernel
theorem dX11_heaviest_22 : decode cX11_heaviest 22 = .ok (.getfield 62, 3) := by decide +kernel
theorem dX11_heaviest_25 : decode cX11_heaviest 25 = .ok (.iload_n 1, 1) := by decide +kernel
theorem dX11_heaviest_26 : decode cX11_heaviest 26 = .ok (.invokevirtual 297, 3) := by decide +kernel
theorem dX11_heaviest_29 : decode cX11_heaviest 29 = .ok (.iconst (-1), 1) := by decide +kernel
theorem dX11_heaviest_30 : decode cX11_heaviest 30 = .ok (.istore_n 2, 1) := by decide +kernel
theorem dX11_heaviest_31 : decode cX11_heaviest 31 = .ok (.iconst 0, 1) := by decide +kernel
theorem dX11_heaviest_32 : decode cX11_heaviest 32 = .ok (.istore_n 3, 1) := by decide +kernel
theorem dX11_heaviest_33 : decode cX11_heaviest 33 = .ok (.iload_n 3, 1) := by decide +kernel
theorem dX11_heaviest_34 : decode cX11_heaviest 34 = .ok (.aload_n 0, 1) := by decide +kernel
theorem dX11_heaviest_35 : decode cX11_heaviest 35 = .ok (.getfield 34, 3) := by decide +kernel
theorem dX11_heaviest_38 : decode cX11_heaviest 38 = .ok (.getfield 131, 3) := by decide +kernel
theorem dX11_heaviest_41 : decode cX11_heaviest 41 = .ok (.if_icmp .ge 44, 3) := by decide +kernel
theorem dX11_heaviest_44 : decode cX11_heaviest 44 = .ok (.iload_n 3, 1) := by decide +kernel
theorem dX11_heaviest_45 : decode cX11_heaviest 45 = .ok (.bipush 7, 2) := by decide +kernel
theorem dX11_heaviest_47 : decode cX11_heaviest 47 = .ok (.if_icmp .ge 38, 3) := by decide +kernel
theorem dX11_heaviest_50 : decode cX11_heaviest 50 = .ok (.iload_n 2, 1) := by decide +kernel
theorem dX11_heaviest_51 : decode cX11_heaviest 51 = .ok (.iconst (-1), 1) := by decide +kernel
theorem dX11_heaviest_52 : decode cX11_heaviest 52 = .ok (.if_icmp .eq 25, 3) := by decide +kernel
theorem dX11_heaviest_55 : decode cX11_heaviest 55 = .ok (.aload_n 0, 1) := by decide +kernel
theorem dX11_heaviest_56 : decode cX11_heaviest 56 = .ok (.getfield 62, 3) := by decide +kernel
theorem dX11_heaviest_59 : decode cX11_heaviest 59 = .ok (.getfield 300, 3) := by decide +kernel
theorem dX11_heaviest_62 : decode cX11_heaviest 62 = .ok (.iload_n 3, 1) := by decide +kernel
theorem dX11_heaviest_63 : decode cX11_heaviest 63 = .ok (.laload, 1) := by decide +kernel
theorem dX11_heaviest_64 : decode cX11_heaviest 64 = .ok (.aload_n 0, 1) := by decide +kernel
theorem dX11_heaviest_65 : decode cX11_heaviest 65 = .ok (.getfield 62, 3) := by decide +kernel
theorem dX11_heaviest_68 : decode cX11_heaviest 68 = .ok (.getfield 300, 3) := by decide +kernel
theorem dX11_heaviest_71 : decode cX11_heaviest 71 = .ok (.iload_n 2, 1) := by decide +kernel
theorem dX11_heaviest_72 : decode cX11_heaviest 72 = .ok (.laload, 1) := by decide +kernel
theorem dX11_heaviest_73 : decode cX11_heaviest 73 = .ok (.lcmp, 1) := by decide +kernel
theorem dX11_heaviest_74 : decode cX11_heaviest 74 = .ok (.ifCond .le 5, 3) := by decide +kernel
theorem dX11_heaviest_77 : decode cX11_heaviest 77 = .ok (.iload_n 3, 1) := by decide +kernel
theorem dX11_heaviest_78 : decode cX11_heaviest 78 = .ok (.istore_n 2, 1) := by decide +kernel
theorem dX11_heaviest_79 : decode cX11_heaviest 79 = .ok (.iinc 3 1, 3) := by decide +kernel
theorem dX11_heaviest_82 : decode cX11_heaviest 82 = .ok (.goto (-49), 3) := by decide +kernel
theorem dX11_heaviest_85 : decode cX11_heaviest 85 = .ok (.iload_n 2, 1) := by decide +kernel
theorem dX11_heaviest_86 : decode cX11_heaviest 86 = .ok (.ireturn, 1) := by decide +kernel
theorem dX11_paid_0 : decode cX11_paid 0 = .ok (.aload_n 0, 1) := by decide +kernel
theorem dX11_paid_1 : decode cX11_paid 1 = .ok (.iload_n 1, 1) := by decide +kernel
theorem dX11_paid_2 : decode cX11_paid 2 = .ok (.invokevirtual 291, 3) := by decide +kernel
theorem dX11_paid_5 : decode cX11_paid 5 = .ok (.aload_n 0, 1) := by decide +kernel
theorem dX11_paid_6 : decode cX11_paid 6 = .ok (.getfield 62, 3) := by decide +kernel
theorem dX11_paid_9 : decode cX11_paid 9 = .ok (.aload_n 0, 1) := by decide +kernel
theorem dX11_paid_10 : decode cX11_paid 10 = .ok (.getfield 20, 3) := by decide +kernel
theorem dX11_paid_13 : decode cX11_paid 13 = .ok (.aload_n 0, 1) := by decide +kernel
theorem dX11_paid_14 : decode cX11_paid 14 = .ok (.getfield 34, 3) := by decide +kernel
theorem dX11_paid_17 : decode cX11_paid 17 = .ok (.invokevirtual 237, 3) := by decide +kernel
theorem dX11_paid_20 : decode cX11_paid 20 = .ok (.astore_n 2, 1) := by decide +kernel
theorem dX11_paid_21 : decode cX11_paid 21 = .ok (.lconst 0, 1) := by decide +kernel
theorem dX11_paid_22 : decode cX11_paid 22 = .ok (.lstore_n 3, 1) := by decide +kernel
theorem dX11_paid_23 : decode cX11_paid 23 = .ok (.iconst 0, 1) := by decide +kernel
theorem dX11_paid_24 : decode cX11_paid 24 = .ok (.istore 5, 2) := by decide +kernel
theorem dX11_paid_26 : decode cX11_paid 26 = .ok (.iload 5, 2) := by decide +kernel
theorem dX11_paid_28 : decode cX11_paid 28 = .ok (.iload_n 1, 1) := by decide +kernel
theorem dX11_paid_29 : decode cX11_paid 29 = .ok (.if_icmp .ge 39, 3) := by decide +kernel
theorem dX11_paid_32 : decode cX11_paid 32 = .ok (.aload_n 0, 1) := by decide +kernel
theorem dX11_paid_33 : decode cX11_paid 33 = .ok (.getfield 62, 3) := by decide +kernel
theorem dX11_paid_36 : decode cX11_paid 36 = .ok (.aload_n 0, 1) := by decide +kernel
theorem dX11_paid_37 : decode cX11_paid 37 = .ok (.getfield 20, 3) := by decide +kernel
theorem dX11_paid_40 : decode cX11_paid 40 = .ok (.aload_n 2, 1) := by decide +kernel
theorem dX11_paid_41 : decode cX11_paid 41 = .ok (.aload_n 0, 1) := by decide +kernel
theorem dX11_paid_42 : decode cX11_paid 42 = .ok (.getfield 20, 3) := by decide +kernel
theorem dX11_paid_45 : decode cX11_paid 45 = .ok (.getfield 217, 3) := by decide +kernel
theorem dX11_paid_48 : decode cX11_paid 48 = .ok (.invokevirtual 220, 3) := by decide +kernel
theorem dX11_paid_51 : decode cX11_paid 51 = .ok (.lload_n 3, 1) := by decide +kernel
theorem dX11_paid_52 : decode cX11_paid 52 = .ok (.aload_n 0, 1) := by decide +kernel
theorem dX11_paid_53 : decode cX11_paid 53 = .ok (.getfield 62, 3) := by decide +kernel
theorem dX11_paid_56 : decode cX11_paid 56 = .ok (.getfield 304, 3) := by decide +kernel
theorem dX11_paid_59 : decode cX11_paid 59 = .ok (.i2l, 1) := by decide +kernel
theorem dX11_paid_60 : decode cX11_paid 60 = .ok (.ladd, 1) := by decide +kernel
theorem dX11_paid_61 : decode cX11_paid 61 = .ok (.lstore_n 3, 1) := by decide +kernel
theorem dX11_paid_62 : decode cX11_paid 62 = .ok (.iinc 5 1, 3) := by decide +kernel
theorem dX11_paid_65 : decode cX11_paid 65 = .ok (.goto (-39), 3) := by decide +kernel
theorem dX11_paid_68 : decode cX11_paid 68 = .ok (.lload_n 3, 1) := by decide +kernel
theorem dX11_paid_69 : decode cX11_paid 69 = .ok (.lreturn, 1) := by decide +kernel
theorem dX11_checkNear_0 : decode cX11_checkNear 0 = .ok (.aload_n 0, 1) := by decide +kernel
theorem dX11_checkNear_1 : decode cX11_checkNear 1 = .ok (.iload_n 1, 1) := by decide +kernel
theorem dX11_checkNear_2 : decode cX11_checkNear 2 = .ok (.iconst 1, 1) := by decide +kernel
theorem dX11_checkNear_3 : decode cX11_checkNear 3 = .ok (.bipush 20, 2) := by decide +kernel
theorem dX11_checkNear_5 : decode cX11_checkNear 5 = .ok (.invokevirtual 162, 3) := by decide +kernel
theorem dX11_checkNear_8 : decode cX11_checkNear 8 = .ok (.return_, 1) := by decide +kernel
theorem dX11_lostNow_0 : decode cX11_lostNow 0 = .ok (.aload_n 0, 1) := by decide +kernel
theorem dX11_lostNow_1 : decode cX11_lostNow 1 = .ok (.getfield 62, 3) := by decide +kernel
theorem dX11_lostNow_4 : decode cX11_lostNow 4 = .ok (.aload_n 0, 1) := by decide +kernel
theorem dX11_lostNow_5 : decode cX11_lostNow 5 = .ok (.getfield 20, 3) := by decide +kernel
theorem dX11_lostNow_8 : decode cX11_lostNow 8 = .ok (.aload_n 0, 1) := by decide +kernel
theorem dX11_lostNow_9 : decode cX11_lostNow 9 = .ok (.getfield 34, 3) := by decide +kernel
theorem dX11_lostNow_12 : decode cX11_lostNow 12 = .ok (.invokevirtual 237, 3) := by decide +kernel
theorem dX11_lostNow_15 : decode cX11_lostNow 15 = .ok (.pop, 1) := by decide +kernel
theorem dX11_lostNow_16 : decode cX11_lostNow 16 = .ok (.aload_n 0, 1) := by decide +kernel
theorem dX11_lostNow_17 : decode cX11_lostNow 17 = .ok (.getfield 62, 3) := by decide +kernel
theorem dX11_lostNow_20 : decode cX11_lostNow 20 = .ok (.iload_n 1, 1) := by decide +kernel
theorem dX11_lostNow_21 : decode cX11_lostNow 21 = .ok (.bipush 7, 2) := by decide +kernel
theorem dX11_lostNow_23 : decode cX11_lostNow 23 = .ok (.invokevirtual 307, 3) := by decide +kernel
theorem dX11_lostNow_26 : decode cX11_lostNow 26 = .ok (.ireturn, 1) := by decide +kernel
theorem dX11_order_0 : decode cX11_order 0 = .ok (.aload_n 0, 1) := by decide +kernel
theorem dX11_order_1 : decode cX11_order 1 = .ok (.iload_n 1, 1) := by decide +kernel
theorem dX11_order_2 : decode cX11_order 2 = .ok (.invokevirtual 291, 3) := by decide +kernel
theorem dX11_order_5 : decode cX11_order 5 = .ok (.iload_n 2, 1) := by decide +kernel
theorem dX11_order_6 : decode cX11_order 6 = .ok (.ifCond .eq 12, 3) := by decide +kernel
theorem dX11_order_9 : decode cX11_order 9 = .ok (.aload_n 0, 1) := by decide +kernel
theorem dX11_order_10 : decode cX11_order 10 = .ok (.iload_n 2, 1) := by decide +kernel
theorem dX11_order_11 : decode cX11_order 11 = .ok (.bipush 10, 2) := by decide +kernel
theorem dX11_order_13 : decode cX11_order 13 = .ok (.bipush 16, 2) := by decide +kernel
theorem dX11_order_15 : decode cX11_order 15 = .ok (.invokevirtual 162, 3) := by decide +kernel
theorem dX11_order_18 : decode cX11_order 18 = .ok (.aload_n 0, 1) := by decide +kernel
theorem dX11_order_19 : decode cX11_order 19 = .ok (.getfield 69, 3) := by decide +kernel
theorem dX11_order_22 : decode cX11_order 22 = .ok (.aload_n 0, 1) := by decide +kernel
theorem dX11_order_23 : decode cX11_order 23 = .ok (.getfield 62, 3) := by decide +kernel
theorem dX11_order_26 : decode cX11_order 26 = .ok (.aload_n 0, 1) := by decide +kernel
theorem dX11_order_27 : decode cX11_order 27 = .ok (.getfield 20, 3) := by decide +kernel
theorem dX11_order_30 : decode cX11_order 30 = .ok (.aload_n 0, 1) := by decide +kernel
theorem dX11_order_31 : decode cX11_order 31 = .ok (.getfield 34, 3) := by decide +kernel
theorem dX11_order_34 : decode cX11_order 34 = .ok (.iload_n 1, 1) := by decide +kernel
theorem dX11_order_35 : decode cX11_order 35 = .ok (.iconst 0, 1) := by decide +kernel
theorem dX11_order_36 : decode cX11_order 36 = .ok (.invokevirtual 310, 3) := by decide +kernel
theorem dX11_order_39 : decode cX11_order 39 = .ok (.iload_n 2, 1) := by decide +kernel
theorem dX11_order_40 : decode cX11_order 40 = .ok (.ifCond .ne 11, 3) := by decide +kernel
theorem dX11_order_43 : decode cX11_order 43 = .ok (.aload_n 0, 1) := by decide +kernel
theorem dX11_order_44 : decode cX11_order 44 = .ok (.getfield 69, 3) := by decide +kernel
theorem dX11_order_47 : decode cX11_order 47 = .ok (.getfield 314, 3) := by decide +kernel
theorem dX11_order_50 : decode cX11_order 50 = .ok (.ireturn, 1) := by decide +kernel
theorem dX11_order_51 : decode cX11_order 51 = .ok (.aload_n 0, 1) := by decide +kernel
theorem dX11_order_52 : decode cX11_order 52 = .ok (.getfield 34, 3) := by decide +kernel
theorem dX11_order_55 : decode cX11_order 55 = .ok (.iload_n 2, 1) := by decide +kernel
theorem dX11_order_56 : decode cX11_order 56 = .ok (.bipush 10, 2) := by decide +kernel
theorem dX11_order_58 : decode cX11_order 58 = .ok (.isub, 1) := by decide +kernel
theorem dX11_order_59 : decode cX11_order 59 = .ok (.invokevirtual 174, 3) := by decide +kernel
theorem dX11_order_62 : decode cX11_order 62 = .ok (.ifCond .eq 18, 3) := by decide +kernel
theorem dX11_order_65 : decode cX11_order 65 = .ok (.aload_n 0, 1) := by decide +kernel
theorem dX11_order_66 : decode cX11_order 66 = .ok (.getfield 69, 3) := by decide +kernel
theorem dX11_order_69 : decode cX11_order 69 = .ok (.getfield 317, 3) := by decide +kernel
theorem dX11_order_72 : decode cX11_order 72 = .ok (.iload_n 2, 1) := by decide +kernel
theorem dX11_order_73 : decode cX11_order 73 = .ok (.bipush 10, 2) := by decide +kernel
theorem dX11_order_75 : decode cX11_order 75 = .ok (.isub, 1) := by decide +kernel
theorem dX11_order_76 : decode cX11_order 76 = .ok (.iaload, 1) := by decide +kernel
theorem dX11_order_77 : decode cX11_order 77 = .ok (.goto 4, 3) := by decide +kernel
theorem dX11_order_80 : decode cX11_order 80 = .ok (.iconst (-1), 1) := by decide +kernel
theorem dX11_order_81 : decode cX11_order 81 = .ok (.ireturn, 1) := by decide +kernel
theorem dX11_orders_0 : decode cX11_orders 0 = .ok (.aload_n 0, 1) := by decide +kernel
theorem dX11_orders_1 : decode cX11_orders 1 = .ok (.iload_n 1, 1) := by decide +kernel
theorem dX11_orders_2 : decode cX11_orders 2 = .ok (.invokevirtual 291, 3) := by decide +kernel
theorem dX11_orders_5 : decode cX11_orders 5 = .ok (.aload_n 0, 1) := by decide +kernel
theorem dX11_orders_6 : decode cX11_orders 6 = .ok (.getfield 69, 3) := by decide +kernel
theorem dX11_orders_9 : decode cX11_orders 9 = .ok (.aload_n 0, 1) := by decide +kernel
theorem dX11_orders_10 : decode cX11_orders 10 = .ok (.getfield 62, 3) := by decide +kernel
theorem dX11_orders_13 : decode cX11_orders 13 = .ok (.aload_n 0, 1) := by decide +kernel
theorem dX11_orders_14 : decode cX11_orders 14 = .ok (.getfield 20, 3) := by decide +kernel
theorem dX11_orders_17 : decode cX11_orders 17 = .ok (.aload_n 0, 1) := by decide +kernel
theorem dX11_orders_18 : decode cX11_orders 18 = .ok (.getfield 34, 3) := by decide +kernel
theorem dX11_orders_21 : decode cX11_orders 21 = .ok (.iload_n 1, 1) := by decide +kernel
theorem dX11_orders_22 : decode cX11_orders 22 = .ok (.iconst 1, 1) := by decide +kernel
theorem dX11_orders_23 : decode cX11_orders 23 = .ok (.invokevirtual 310, 3) := by decide +kernel
theorem dX11_orders_26 : decode cX11_orders 26 = .ok (.aload_n 0, 1) := by decide +kernel
theorem dX11_orders_27 : decode cX11_orders 27 = .ok (.getfield 69, 3) := by decide +kernel
theorem dX11_orders_30 : decode cX11_orders 30 = .ok (.getfield 320, 3) := by decide +kernel
theorem dX11_orders_33 : decode cX11_orders 33 = .ok (.ireturn, 1) := by decide +kernel
theorem dX11_bestSwap_0 : decode cX11_bestSwap 0 = .ok (.aload_n 0, 1) := by decide +kernel
theorem dX11_bestSwap_1 : decode cX11_bestSwap 1 = .ok (.iload_n 1, 1) := by decide +kernel
theorem dX11_bestSwap_2 : decode cX11_bestSwap 2 = .ok (.invokevirtual 291, 3) := by decide +kernel
theorem dX11_bestSwap_5 : decode cX11_bestSwap 5 = .ok (.aload_n 0, 1) := by decide +kernel
theorem dX11_bestSwap_6 : decode cX11_bestSwap 6 = .ok (.iload_n 1, 1) := by decide +kernel
theorem dX11_bestSwap_7 : decode cX11_bestSwap 7 = .ok (.invokevirtual 294, 3) := by decide +kernel
theorem dX11_bestSwap_10 : decode cX11_bestSwap 10 = .ok (.istore_n 2, 1) := by decide +kernel
theorem dX11_bestSwap_11 : decode cX11_bestSwap 11 = .ok (.iconst (-1), 1) := by decide +kernel
theorem dX11_bestSwap_12 : decode cX11_bestSwap 12 = .ok (.istore_n 3, 1) := by decide +kernel
theorem dX11_bestSwap_13 : decode cX11_bestSwap 13 = .ok (.iconst 0, 1) := by decide +kernel
theorem dX11_bestSwap_14 : decode cX11_bestSwap 14 = .ok (.istore 4, 2) := by decide +kernel
theorem dX11_bestSwap_16 : decode cX11_bestSwap 16 = .ok (.iload 4, 2) := by decide +kernel
theorem dX11_bestSwap_18 : decode cX11_bestSwap 18 = .ok (.aload_n 0, 1) := by decide +kernel
theorem dX11_bestSwap_19 : decode cX11_bestSwap 19 = .ok (.getfield 34, 3) := by decide +kernel
theorem dX11_bestSwap_22 : decode cX11_bestSwap 22 = .ok (.getfield 131, 3) := by decide +kernel
theorem dX11_bestSwap_25 : decode cX11_bestSwap 25 = .ok (.if_icmp .ge 98, 3) := by decide +kernel
theorem dX11_bestSwap_28 : decode cX11_bestSwap 28 = .ok (.iload 4, 2) := by decide +kernel
theorem dX11_bestSwap_30 : decode cX11_bestSwap 30 = .ok (.bipush 7, 2) := by decide +kernel
theorem dX11_bestSwap_32 : decode cX11_bestSwap 32 = .ok (.if_icmp .ge 91, 3) := by decide +kernel
theorem dX11_bestSwap_35 : decode cX11_bestSwap 35 = .ok (.iload 4, 2) := by decide +kernel
theorem dX11_bestSwap_37 : decode cX11_bestSwap 37 = .ok (.iconst 1, 1) := by decide +kernel
theorem dX11_bestSwap_38 : decode cX11_bestSwap 38 = .ok (.iadd, 1) := by decide +kernel
theorem dX11_bestSwap_39 : decode cX11_bestSwap 39 = .ok (.istore 5, 2) := by decide +kernel
theorem dX11_bestSwap_41 : decode cX11_bestSwap 41 = .ok (.iload 5, 2) := by decide +kernel
theorem dX11_bestSwap_43 : decode cX11_bestSwap 43 = .ok (.aload_n 0, 1) := by decide +kernel
theorem dX11_bestSwap_44 : decode cX11_bestSwap 44 = .ok (.getfield 34, 3) := by decide +kernel
theorem dX11_bestSwap_47 : decode cX11_bestSwap 47 = .ok (.getfield 131, 3) := by decide +kernel
theorem dX11_bestSwap_50 : decode cX11_bestSwap 50 = .ok (.if_icmp .ge 67, 3) := by decide +kernel
theorem dX11_bestSwap_53 : decode cX11_bestSwap 53 = .ok (.iload 5, 2) := by decide +kernel
theorem dX11_bestSwap_55 : decode cX11_bestSwap 55 = .ok (.bipush 7, 2) := by decide +kernel
theorem dX11_bestSwap_57 : decode cX11_bestSwap 57 = .ok (.if_icmp .ge 60, 3) := by decide +kernel
theorem dX11_bestSwap_60 : decode cX11_bestSwap 60 = .ok (.aload_n 0, 1) := by decide +kernel
theorem dX11_bestSwap_61 : decode cX11_bestSwap 61 = .ok (.getfield 62, 3) := by decide +kernel
theorem dX11_bestSwap_64 : decode cX11_bestSwap 64 = .ok (.aload_n 0, 1) := by decide +kernel
theorem dX11_bestSwap_65 : decode cX11_bestSwap 65 = .ok (.getfield 20, 3) := by decide +kernel
theorem dX11_bestSwap_68 : decode cX11_bestSwap 68 = .ok (.aload_n 0, 1) := by decide +kernel
theorem dX11_bestSwap_69 : decode cX11_bestSwap 69 = .ok (.getfield 34, 3) := by decide +kernel
theorem dX11_bestSwap_72 : decode cX11_bestSwap 72 = .ok (.invokevirtual 237, 3) := by decide +kernel
theorem dX11_bestSwap_75 : decode cX11_bestSwap 75 = .ok (.iload 4, 2) := by decide +kernel
theorem dX11_bestSwap_77 : decode cX11_bestSwap 77 = .ok (.iload 5, 2) := by decide +kernel
theorem dX11_bestSwap_79 : decode cX11_bestSwap 79 = .ok (.invokevirtual 199, 3) := by decide +kernel
theorem dX11_bestSwap_82 : decode cX11_bestSwap 82 = .ok (.aload_n 0, 1) := by decide +kernel
theorem dX11_bestSwap_83 : decode cX11_bestSwap 83 = .ok (.getfield 62, 3) := by decide +kernel
theorem dX11_bestSwap_86 : decode cX11_bestSwap 86 = .ok (.iload_n 1, 1) := by decide +kernel
theorem dX11_bestSwap_87 : decode cX11_bestSwap 87 = .ok (.iload_n 2, 1) := by decide +kernel
theorem dX11_bestSwap_88 : decode cX11_bestSwap 88 = .ok (.invokevirtual 307, 3) := by decide +kernel
theorem dX11_bestSwap_91 : decode cX11_bestSwap 91 = .ok (.istore 6, 2) := by decide +kernel
theorem dX11_bestSwap_93 : decode cX11_bestSwap 93 = .ok (.iload 6, 2) := by decide +kernel
theorem dX11_bestSwap_95 : decode cX11_bestSwap 95 = .ok (.iload_n 2, 1) := by decide +kernel
theorem dX11_bestSwap_96 : decode cX11_bestSwap 96 = .ok (.if_icmp .ge 15, 3) := by decide +kernel
theorem dX11_bestSwap_99 : decode cX11_bestSwap 99 = .ok (.iload 6, 2) := by decide +kernel
theorem dX11_bestSwap_101 : decode cX11_bestSwap 101 = .ok (.istore_n 2, 1) := by decide +kernel
theorem dX11_bestSwap_102 : decode cX11_bestSwap 102 = .ok (.iload 4, 2) := by decide +kernel
theorem dX11_bestSwap_104 : decode cX11_bestSwap 104 = .ok (.bipush 10, 2) := by decide +kernel
theorem dX11_bestSwap_106 : decode cX11_bestSwap 106 = .ok (.imul, 1) := by decide +kernel
theorem dX11_bestSwap_107 : decode cX11_bestSwap 107 = .ok (.iload 5, 2) := by decide +kernel
theorem dX11_bestSwap_109 : decode cX11_bestSwap 109 = .ok (.iadd, 1) := by decide +kernel
theorem dX11_bestSwap_110 : decode cX11_bestSwap 110 = .ok (.istore_n 3, 1) := by decide +kernel
theorem dX11_bestSwap_111 : decode cX11_bestSwap 111 = .ok (.iinc 5 1, 3) := by decide +kernel
theorem dX11_bestSwap_114 : decode cX11_bestSwap 114 = .ok (.goto (-73), 3) := by decide +kernel
theorem dX11_bestSwap_117 : decode cX11_bestSwap 117 = .ok (.iinc 4 1, 3) := by decide +kernel
theorem dX11_bestSwap_120 : decode cX11_bestSwap 120 = .ok (.goto (-104), 3) := by decide +kernel
theorem dX11_bestSwap_123 : decode cX11_bestSwap 123 = .ok (.iload_n 3, 1) := by decide +kernel
theorem dX11_bestSwap_124 : decode cX11_bestSwap 124 = .ok (.ireturn, 1) := by decide +kernel
theorem dX11_wouldSwap_0 : decode cX11_wouldSwap 0 = .ok (.aload_n 0, 1) := by decide +kernel
theorem dX11_wouldSwap_1 : decode cX11_wouldSwap 1 = .ok (.iload_n 1, 1) := by decide +kernel
theorem dX11_wouldSwap_2 : decode cX11_wouldSwap 2 = .ok (.invokevirtual 291, 3) := by decide +kernel
theorem dX11_wouldSwap_5 : decode cX11_wouldSwap 5 = .ok (.aload_n 0, 1) := by decide +kernel
theorem dX11_wouldSwap_6 : decode cX11_wouldSwap 6 = .ok (.getfield 62, 3) := by decide +kernel
theorem dX11_wouldSwap_9 : decode cX11_wouldSwap 9 = .ok (.aload_n 0, 1) := by decide +kernel
theorem dX11_wouldSwap_10 : decode cX11_wouldSwap 10 = .ok (.getfield 20, 3) := by decide +kernel
theorem dX11_wouldSwap_13 : decode cX11_wouldSwap 13 = .ok (.aload_n 0, 1) := by decide +kernel
theorem dX11_wouldSwap_14 : decode cX11_wouldSwap 14 = .ok (.getfield 34, 3) := by decide +kernel
theorem dX11_wouldSwap_17 : decode cX11_wouldSwap 17 = .ok (.invokevirtual 237, 3) := by decide +kernel
theorem dX11_wouldSwap_20 : decode cX11_wouldSwap 20 = .ok (.pop, 1) := by decide +kernel
theorem dX11_wouldSwap_21 : decode cX11_wouldSwap 21 = .ok (.aload_n 0, 1) := by decide +kernel
theorem dX11_wouldSwap_22 : decode cX11_wouldSwap 22 = .ok (.getfield 62, 3) := by decide +kernel
theorem dX11_wouldSwap_25 : decode cX11_wouldSwap 25 = .ok (.iload_n 1, 1) := by decide +kernel
theorem dX11_wouldSwap_26 : decode cX11_wouldSwap 26 = .ok (.invokevirtual 297, 3) := by decide +kernel
theorem dX11_wouldSwap_29 : decode cX11_wouldSwap 29 = .ok (.aload_n 0, 1) := by decide +kernel
theorem dX11_wouldSwap_30 : decode cX11_wouldSwap 30 = .ok (.getfield 62, 3) := by decide +kernel
theorem dX11_wouldSwap_33 : decode cX11_wouldSwap 33 = .ok (.invokevirtual 323, 3) := by decide +kernel
theorem dX11_wouldSwap_36 : decode cX11_wouldSwap 36 = .ok (.iconst 0, 1) := by decide +kernel
theorem dX11_wouldSwap_37 : decode cX11_wouldSwap 37 = .ok (.istore_n 2, 1) := by decide +kernel
theorem dX11_wouldSwap_38 : decode cX11_wouldSwap 38 = .ok (.iload_n 2, 1) := by decide +kernel
theorem dX11_wouldSwap_39 : decode cX11_wouldSwap 39 = .ok (.aload_n 0, 1) := by decide +kernel
theorem dX11_wouldSwap_40 : decode cX11_wouldSwap 40 = .ok (.getfield 34, 3) := by decide +kernel
theorem dX11_wouldSwap_43 : decode cX11_wouldSwap 43 = .ok (.getfield 131, 3) := by decide +kernel
theorem dX11_wouldSwap_46 : decode cX11_wouldSwap 46 = .ok (.if_icmp .ge 59, 3) := by decide +kernel
theorem dX11_wouldSwap_49 : decode cX11_wouldSwap 49 = .ok (.iload_n 2, 1) := by decide +kernel
theorem dX11_wouldSwap_50 : decode cX11_wouldSwap 50 = .ok (.bipush 7, 2) := by decide +kernel
theorem dX11_wouldSwap_52 : decode cX11_wouldSwap 52 = .ok (.if_icmp .ge 53, 3) := by decide +kernel
theorem dX11_wouldSwap_55 : decode cX11_wouldSwap 55 = .ok (.iload_n 2, 1) := by decide +kernel
theorem dX11_wouldSwap_56 : decode cX11_wouldSwap 56 = .ok (.iconst 1, 1) := by decide +kernel
theorem dX11_wouldSwap_57 : decode cX11_wouldSwap 57 = .ok (.iadd, 1) := by decide +kernel
theorem dX11_wouldSwap_58 : decode cX11_wouldSwap 58 = .ok (.istore_n 3, 1) := by decide +kernel
theorem dX11_wouldSwap_59 : decode cX11_wouldSwap 59 = .ok (.iload_n 3, 1) := by decide +kernel
theorem dX11_wouldSwap_60 : decode cX11_wouldSwap 60 = .ok (.aload_n 0, 1) := by decide +kernel
theorem dX11_wouldSwap_61 : decode cX11_wouldSwap 61 = .ok (.getfield 34, 3) := by decide +kernel
theorem dX11_wouldSwap_64 : decode cX11_wouldSwap 64 = .ok (.getfield 131, 3) := by decide +kernel
theorem dX11_wouldSwap_67 : decode cX11_wouldSwap 67 = .ok (.if_icmp .ge 32, 3) := by decide +kernel
theorem dX11_wouldSwap_70 : decode cX11_wouldSwap 70 = .ok (.iload_n 3, 1) := by decide +kernel
theorem dX11_wouldSwap_71 : decode cX11_wouldSwap 71 = .ok (.bipush 7, 2) := by decide +kernel
theorem dX11_wouldSwap_73 : decode cX11_wouldSwap 73 = .ok (.if_icmp .ge 26, 3) := by decide +kernel
theorem dX11_wouldSwap_76 : decode cX11_wouldSwap 76 = .ok (.aload_n 0, 1) := by decide +kernel
theorem dX11_wouldSwap_77 : decode cX11_wouldSwap 77 = .ok (.iload_n 2, 1) := by decide +kernel
theorem dX11_wouldSwap_78 : decode cX11_wouldSwap 78 = .ok (.iload_n 3, 1) := by decide +kernel
theorem dX11_wouldSwap_79 : decode cX11_wouldSwap 79 = .ok (.iload_n 1, 1) := by decide +kernel
theorem dX11_wouldSwap_80 : decode cX11_wouldSwap 80 = .ok (.invokevirtual 326, 3) := by decide +kernel
theorem dX11_wouldSwap_83 : decode cX11_wouldSwap 83 = .ok (.ifCond .eq 10, 3) := by decide +kernel
theorem dX11_wouldSwap_86 : decode cX11_wouldSwap 86 = .ok (.iload_n 2, 1) := by decide +kernel
theorem dX11_wouldSwap_87 : decode cX11_wouldSwap 87 = .ok (.bipush 10, 2) := by decide +kernel
theorem dX11_wouldSwap_89 : decode cX11_wouldSwap 89 = .ok (.imul, 1) := by decide +kernel
theorem dX11_wouldSwap_90 : decode cX11_wouldSwap 90 = .ok (.iload_n 3, 1) := by decide +kernel
theorem dX11_wouldSwap_91 : decode cX11_wouldSwap 91 = .ok (.iadd, 1) := by decide +kernel
theorem dX11_wouldSwap_92 : decode cX11_wouldSwap 92 = .ok (.ireturn, 1) := by decide +kernel
theorem dX11_wouldSwap_93 : decode cX11_wouldSwap 93 = .ok (.iinc 3 1, 3) := by decide +kernel
theorem dX11_wouldSwap_96 : decode cX11_wouldSwap 96 = .ok (.goto (-37), 3) := by decide +kernel
theorem dX11_wouldSwap_99 : decode cX11_wouldSwap 99 = .ok (.iinc 2 1, 3) := by decide +kernel
theorem dX11_wouldSwap_102 : decode cX11_wouldSwap 102 = .ok (.goto (-64), 3) := by decide +kernel
theorem dX11_wouldSwap_105 : decode cX11_wouldSwap 105 = .ok (.iconst (-1), 1) := by decide +kernel
theorem dX11_wouldSwap_106 : decode cX11_wouldSwap 106 = .ok (.ireturn, 1) := by decide +kernel
theorem dX11_bothGain_0 : decode cX11_bothGain 0 = .ok (.aload_n 0, 1) := by decide +kernel
theorem dX11_bothGain_1 : decode cX11_bothGain 1 = .ok (.getfield 34, 3) := by decide +kernel
theorem dX11_bothGain_4 : decode cX11_bothGain 4 = .ok (.iload_n 1, 1) := by decide +kernel
theorem dX11_bothGain_5 : decode cX11_bothGain 5 = .ok (.invokevirtual 183, 3) := by decide +kernel
theorem dX11_bothGain_8 : decode cX11_bothGain 8 = .ok (.ifCond .ne 14, 3) := by decide +kernel
theorem dX11_bothGain_11 : decode cX11_bothGain 11 = .ok (.aload_n 0, 1) := by decide +kernel
theorem dX11_bothGain_12 : decode cX11_bothGain 12 = .ok (.getfield 34, 3) := by decide +kernel
theorem dX11_bothGain_15 : decode cX11_bothGain 15 = .ok (.iload_n 2, 1) := by decide +kernel
theorem dX11_bothGain_16 : decode cX11_bothGain 16 = .ok (.invokevirtual 183, 3) := by decide +kernel
theorem dX11_bothGain_19 : decode cX11_bothGain 19 = .ok (.ifCond .eq 5, 3) := by decide +kernel
theorem dX11_bothGain_22 : decode cX11_bothGain 22 = .ok (.iconst 0, 1) := by decide +kernel
theorem dX11_bothGain_23 : decode cX11_bothGain 23 = .ok (.ireturn, 1) := by decide +kernel
theorem dX11_bothGain_24 : decode cX11_bothGain 24 = .ok (.aload_n 0, 1) := by decide +kernel
theorem dX11_bothGain_25 : decode cX11_bothGain 25 = .ok (.getfield 62, 3) := by decide +kernel
theorem dX11_bothGain_28 : decode cX11_bothGain 28 = .ok (.aload_n 0, 1) := by decide +kernel
theorem dX11_bothGain_29 : decode cX11_bothGain 29 = .ok (.getfield 20, 3) := by decide +kernel
theorem dX11_bothGain_32 : decode cX11_bothGain 32 = .ok (.aload_n 0, 1) := by decide +kernel
theorem dX11_bothGain_33 : decode cX11_bothGain 33 = .ok (.getfield 34, 3) := by decide +kernel
theorem dX11_bothGain_36 : decode cX11_bothGain 36 = .ok (.invokevirtual 237, 3) := by decide +kernel
theorem dX11_bothGain_39 : decode cX11_bothGain 39 = .ok (.iload_n 1, 1) := by decide +kernel
theorem dX11_bothGain_40 : decode cX11_bothGain 40 = .ok (.iload_n 2, 1) := by decide +kernel
theorem dX11_bothGain_41 : decode cX11_bothGain 41 = .ok (.invokevirtual 199, 3) := by decide +kernel
theorem dX11_bothGain_44 : decode cX11_bothGain 44 = .ok (.aload_n 0, 1) := by decide +kernel
theorem dX11_bothGain_45 : decode cX11_bothGain 45 = .ok (.getfield 62, 3) := by decide +kernel
theorem dX11_bothGain_48 : decode cX11_bothGain 48 = .ok (.iload_n 3, 1) := by decide +kernel
theorem dX11_bothGain_49 : decode cX11_bothGain 49 = .ok (.invokevirtual 297, 3) := by decide +kernel
theorem dX11_bothGain_52 : decode cX11_bothGain 52 = .ok (.aload_n 0, 1) := by decide +kernel
theorem dX11_bothGain_53 : decode cX11_bothGain 53 = .ok (.getfield 62, 3) := by decide +kernel
theorem dX11_bothGain_56 : decode cX11_bothGain 56 = .ok (.getfield 300, 3) := by decide +kernel
theorem dX11_bothGain_59 : decode cX11_bothGain 59 = .ok (.iload_n 2, 1) := by decide +kernel
theorem dX11_bothGain_60 : decode cX11_bothGain 60 = .ok (.laload, 1) := by decide +kernel
theorem dX11_bothGain_61 : decode cX11_bothGain 61 = .ok (.aload_n 0, 1) := by decide +kernel
theorem dX11_bothGain_62 : decode cX11_bothGain 62 = .ok (.getfield 62, 3) := by decide +kernel
theorem dX11_bothGain_65 : decode cX11_bothGain 65 = .ok (.getfield 330, 3) := by decide +kernel
theorem dX11_bothGain_68 : decode cX11_bothGain 68 = .ok (.iload_n 1, 1) := by decide +kernel
theorem dX11_bothGain_69 : decode cX11_bothGain 69 = .ok (.laload, 1) := by decide +kernel
theorem dX11_bothGain_70 : decode cX11_bothGain 70 = .ok (.lcmp, 1) := by decide +kernel
theorem dX11_bothGain_71 : decode cX11_bothGain 71 = .ok (.ifCond .ge 29, 3) := by decide +kernel
theorem dX11_bothGain_74 : decode cX11_bothGain 74 = .ok (.aload_n 0, 1) := by decide +kernel
theorem dX11_bothGain_75 : decode cX11_bothGain 75 = .ok (.getfield 62, 3) := by decide +kernel
theorem dX11_bothGain_78 : decode cX11_bothGain 78 = .ok (.getfield 300, 3) := by decide +kernel
theorem dX11_bothGain_81 : decode cX11_bothGain 81 = .ok (.iload_n 1, 1) := by decide +kernel
theorem dX11_bothGain_82 : decode cX11_bothGain 82 = .ok (.laload, 1) := by decide +kernel
theorem dX11_bothGain_83 : decode cX11_bothGain 83 = .ok (.aload_n 0, 1) := by decide +kernel
theorem dX11_bothGain_84 : decode cX11_bothGain 84 = .ok (.getfield 62, 3) := by decide +kernel
theorem dX11_bothGain_87 : decode cX11_bothGain 87 = .ok (.getfield 330, 3) := by decide +kernel
theorem dX11_bothGain_90 : decode cX11_bothGain 90 = .ok (.iload_n 2, 1) := by decide +kernel
theorem dX11_bothGain_91 : decode cX11_bothGain 91 = .ok (.laload, 1) := by decide +kernel
theorem dX11_bothGain_92 : decode cX11_bothGain 92 = .ok (.lcmp, 1) := by decide +kernel
theorem dX11_bothGain_93 : decode cX11_bothGain 93 = .ok (.ifCond .ge 7, 3) := by decide +kernel
theorem dX11_bothGain_96 : decode cX11_bothGain 96 = .ok (.iconst 1, 1) := by decide +kernel
theorem dX11_bothGain_97 : decode cX11_bothGain 97 = .ok (.goto 4, 3) := by decide +kernel
theorem dX11_bothGain_100 : decode cX11_bothGain 100 = .ok (.iconst 0, 1) := by decide +kernel
theorem dX11_bothGain_101 : decode cX11_bothGain 101 = .ok (.ireturn, 1) := by decide +kernel
theorem dX11_bestHouse_0 : decode cX11_bestHouse 0 = .ok (.aload_n 0, 1) := by decide +kernel
theorem dX11_bestHouse_1 : decode cX11_bestHouse 1 = .ok (.iload_n 1, 1) := by decide +kernel
theorem dX11_bestHouse_2 : decode cX11_bestHouse 2 = .ok (.invokevirtual 121, 3) := by decide +kernel
theorem dX11_bestHouse_5 : decode cX11_bestHouse 5 = .ok (.aload_n 0, 1) := by decide +kernel
theorem dX11_bestHouse_6 : decode cX11_bestHouse 6 = .ok (.iload_n 2, 1) := by decide +kernel
theorem dX11_bestHouse_7 : decode cX11_bestHouse 7 = .ok (.invokevirtual 291, 3) := by decide +kernel
theorem dX11_bestHouse_10 : decode cX11_bestHouse 10 = .ok (.iconst (-1), 1) := by decide +kernel
theorem dX11_bestHouse_11 : decode cX11_bestHouse 11 = .ok (.istore_n 3, 1) := by decide +kernel
theorem dX11_bestHouse_12 : decode cX11_bestHouse 12 = .ok (.lconst 0, 1) := by decide +kernel
theorem dX11_bestHouse_13 : decode cX11_bestHouse 13 = .ok (.lstore 4, 2) := by decide +kernel
theorem dX11_bestHouse_15 : decode cX11_bestHouse 15 = .ok (.iconst 0, 1) := by decide +kernel
theorem dX11_bestHouse_16 : decode cX11_bestHouse 16 = .ok (.istore 6, 2) := by decide +kernel
theorem dX11_bestHouse_18 : decode cX11_bestHouse 18 = .ok (.iload 6, 2) := by decide +kernel
theorem dX11_bestHouse_20 : decode cX11_bestHouse 20 = .ok (.aload_n 0, 1) := by decide +kernel
theorem dX11_bestHouse_21 : decode cX11_bestHouse 21 = .ok (.getfield 34, 3) := by decide +kernel
theorem dX11_bestHouse_24 : decode cX11_bestHouse 24 = .ok (.getfield 131, 3) := by decide +kernel
theorem dX11_bestHouse_27 : decode cX11_bestHouse 27 = .ok (.if_icmp .ge 81, 3) := by decide +kernel
theorem dX11_bestHouse_30 : decode cX11_bestHouse 30 = .ok (.iload 6, 2) := by decide +kernel
theorem dX11_bestHouse_32 : decode cX11_bestHouse 32 = .ok (.bipush 7, 2) := by decide +kernel
theorem dX11_bestHouse_34 : decode cX11_bestHouse 34 = .ok (.if_icmp .ge 74, 3) := by decide +kernel
theorem dX11_bestHouse_37 : decode cX11_bestHouse 37 = .ok (.aload_n 0, 1) := by decide +kernel
theorem dX11_bestHouse_38 : decode cX11_bestHouse 38 = .ok (.getfield 62, 3) := by decide +kernel
theorem dX11_bestHouse_41 : decode cX11_bestHouse 41 = .ok (.aload_n 0, 1) := by decide +kernel
theorem dX11_bestHouse_42 : decode cX11_bestHouse 42 = .ok (.getfield 20, 3) := by decide +kernel
theorem dX11_bestHouse_45 : decode cX11_bestHouse 45 = .ok (.aload_n 0, 1) := by decide +kernel
theorem dX11_bestHouse_46 : decode cX11_bestHouse 46 = .ok (.getfield 34, 3) := by decide +kernel
theorem dX11_bestHouse_49 : decode cX11_bestHouse 49 = .ok (.invokevirtual 237, 3) := by decide +kernel
theorem dX11_bestHouse_52 : decode cX11_bestHouse 52 = .ok (.iload_n 1, 1) := by decide +kernel
theorem dX11_bestHouse_53 : decode cX11_bestHouse 53 = .ok (.iload 6, 2) := by decide +kernel
theorem dX11_bestHouse_55 : decode cX11_bestHouse 55 = .ok (.invokevirtual 199, 3) := by decide +kernel
theorem dX11_bestHouse_58 : decode cX11_bestHouse 58 = .ok (.aload_n 0, 1) := by decide +kernel
theorem dX11_bestHouse_59 : decode cX11_bestHouse 59 = .ok (.getfield 62, 3) := by decide +kernel
theorem dX11_bestHouse_62 : decode cX11_bestHouse 62 = .ok (.iload_n 2, 1) := by decide +kernel
theorem dX11_bestHouse_63 : decode cX11_bestHouse 63 = .ok (.invokevirtual 297, 3) := by decide +kernel
theorem dX11_bestHouse_66 : decode cX11_bestHouse 66 = .ok (.iload_n 3, 1) := by decide +kernel
theorem dX11_bestHouse_67 : decode cX11_bestHouse 67 = .ok (.iconst (-1), 1) := by decide +kernel
theorem dX11_bestHouse_68 : decode cX11_bestHouse 68 = .ok (.if_icmp .eq 19, 3) := by decide +kernel
theorem dX11_bestHouse_71 : decode cX11_bestHouse 71 = .ok (.aload_n 0, 1) := by decide +kernel
theorem dX11_bestHouse_72 : decode cX11_bestHouse 72 = .ok (.getfield 62, 3) := by decide +kernel
theorem dX11_bestHouse_75 : decode cX11_bestHouse 75 = .ok (.getfield 300, 3) := by decide +kernel
theorem dX11_bestHouse_78 : decode cX11_bestHouse 78 = .ok (.iload 6, 2) := by decide +kernel
theorem dX11_bestHouse_80 : decode cX11_bestHouse 80 = .ok (.laload, 1) := by decide +kernel
theorem dX11_bestHouse_81 : decode cX11_bestHouse 81 = .ok (.lload 4, 2) := by decide +kernel
theorem dX11_bestHouse_83 : decode cX11_bestHouse 83 = .ok (.lcmp, 1) := by decide +kernel
theorem dX11_bestHouse_84 : decode cX11_bestHouse 84 = .ok (.ifCond .ge 18, 3) := by decide +kernel
theorem dX11_bestHouse_87 : decode cX11_bestHouse 87 = .ok (.iload 6, 2) := by decide +kernel
theorem dX11_bestHouse_89 : decode cX11_bestHouse 89 = .ok (.istore_n 3, 1) := by decide +kernel
theorem dX11_bestHouse_90 : decode cX11_bestHouse 90 = .ok (.aload_n 0, 1) := by decide +kernel
theorem dX11_bestHouse_91 : decode cX11_bestHouse 91 = .ok (.getfield 62, 3) := by decide +kernel
theorem dX11_bestHouse_94 : decode cX11_bestHouse 94 = .ok (.getfield 300, 3) := by decide +kernel
theorem dX11_bestHouse_97 : decode cX11_bestHouse 97 = .ok (.iload 6, 2) := by decide +kernel
theorem dX11_bestHouse_99 : decode cX11_bestHouse 99 = .ok (.laload, 1) := by decide +kernel
theorem dX11_bestHouse_100 : decode cX11_bestHouse 100 = .ok (.lstore 4, 2) := by decide +kernel
theorem dX11_bestHouse_102 : decode cX11_bestHouse 102 = .ok (.iinc 6 1, 3) := by decide +kernel
theorem dX11_bestHouse_105 : decode cX11_bestHouse 105 = .ok (.goto (-87), 3) := by decide +kernel
theorem dX11_bestHouse_108 : decode cX11_bestHouse 108 = .ok (.iload_n 3, 1) := by decide +kernel
theorem dX11_bestHouse_109 : decode cX11_bestHouse 109 = .ok (.ireturn, 1) := by decide +kernel
theorem dX11_hedges_0 : decode cX11_hedges 0 = .ok (.aload_n 0, 1) := by decide +kernel
theorem dX11_hedges_1 : decode cX11_hedges 1 = .ok (.iload_n 1, 1) := by decide +kernel
theorem dX11_hedges_2 : decode cX11_hedges 2 = .ok (.invokevirtual 121, 3) := by decide +kernel
theorem dX11_hedges_5 : decode cX11_hedges 5 = .ok (.aload_n 0, 1) := by decide +kernel
theorem dX11_hedges_6 : decode cX11_hedges 6 = .ok (.iload_n 2, 1) := by decide +kernel
theorem dX11_hedges_7 : decode cX11_hedges 7 = .ok (.invokevirtual 291, 3) := by decide +kernel
theorem dX11_hedges_10 : decode cX11_hedges 10 = .ok (.aload_n 0, 1) := by decide +kernel
theorem dX11_hedges_11 : decode cX11_hedges 11 = .ok (.iload_n 3, 1) := by decide +kernel
theorem dX11_hedges_12 : decode cX11_hedges 12 = .ok (.iconst 0, 1) := by decide +kernel
theorem dX11_hedges_13 : decode cX11_hedges 13 = .ok (.iconst 1, 1) := by decide +kernel
theorem dX11_hedges_14 : decode cX11_hedges 14 = .ok (.invokevirtual 162, 3) := by decide +kernel
theorem dX11_hedges_17 : decode cX11_hedges 17 = .ok (.aload_n 0, 1) := by decide +kernel
theorem dX11_hedges_18 : decode cX11_hedges 18 = .ok (.iload_n 1, 1) := by decide +kernel
theorem dX11_hedges_19 : decode cX11_hedges 19 = .ok (.invokevirtual 154, 3) := by decide +kernel
theorem dX11_hedges_22 : decode cX11_hedges 22 = .ok (.bipush 8, 2) := by decide +kernel
theorem dX11_hedges_24 : decode cX11_hedges 24 = .ok (.istore 4, 2) := by decide +kernel
theorem dX11_hedges_26 : decode cX11_hedges 26 = .ok (.iconst (-1), 1) := by decide +kernel
theorem dX11_hedges_27 : decode cX11_hedges 27 = .ok (.istore 5, 2) := by decide +kernel
theorem dX11_hedges_29 : decode cX11_hedges 29 = .ok (.iconst 0, 1) := by decide +kernel
theorem dX11_hedges_30 : decode cX11_hedges 30 = .ok (.istore 6, 2) := by decide +kernel
theorem dX11_hedges_32 : decode cX11_hedges 32 = .ok (.iload 6, 2) := by decide +kernel
theorem dX11_hedges_34 : decode cX11_hedges 34 = .ok (.iconst 1, 1) := by decide +kernel
theorem dX11_hedges_35 : decode cX11_hedges 35 = .ok (.aload_n 0, 1) := by decide +kernel
theorem dX11_hedges_36 : decode cX11_hedges 36 = .ok (.getfield 34, 3) := by decide +kernel
theorem dX11_hedges_39 : decode cX11_hedges 39 = .ok (.getfield 131, 3) := by decide +kernel
theorem dX11_hedges_42 : decode cX11_hedges 42 = .ok (.bipush 7, 2) := by decide +kernel
theorem dX11_hedges_44 : decode cX11_hedges 44 = .ok (.invokestatic 333, 3) := by decide +kernel
theorem dX11_hedges_47 : decode cX11_hedges 47 = .ok (.ishl, 1) := by decide +kernel
theorem dX11_hedges_48 : decode cX11_hedges 48 = .ok (.if_icmp .ge 41, 3) := by decide +kernel
theorem dX11_hedges_51 : decode cX11_hedges 51 = .ok (.iload 6, 2) := by decide +kernel
theorem dX11_hedges_53 : decode cX11_hedges 53 = .ok (.invokestatic 338, 3) := by decide +kernel
theorem dX11_hedges_56 : decode cX11_hedges 56 = .ok (.iload 4, 2) := by decide +kernel
theorem dX11_hedges_58 : decode cX11_hedges 58 = .ok (.if_icmp .ge 25, 3) := by decide +kernel
theorem dX11_hedges_61 : decode cX11_hedges 61 = .ok (.aload_n 0, 1) := by decide +kernel
theorem dX11_hedges_62 : decode cX11_hedges 62 = .ok (.iload 6, 2) := by decide +kernel
theorem dX11_hedges_64 : decode cX11_hedges 64 = .ok (.iload_n 1, 1) := by decide +kernel
theorem dX11_hedges_65 : decode cX11_hedges 65 = .ok (.iload_n 2, 1) := by decide +kernel
theorem dX11_hedges_66 : decode cX11_hedges 66 = .ok (.invokevirtual 343, 3) := by decide +kernel
theorem dX11_hedges_69 : decode cX11_hedges 69 = .ok (.ifCond .eq 14, 3) := by decide +kernel
theorem dX11_hedges_72 : decode cX11_hedges 72 = .ok (.iload 6, 2) := by decide +kernel
theorem dX11_hedges_74 : decode cX11_hedges 74 = .ok (.invokestatic 338, 3) := by decide +kernel
theorem dX11_hedges_77 : decode cX11_hedges 77 = .ok (.istore 4, 2) := by decide +kernel
theorem dX11_hedges_79 : decode cX11_hedges 79 = .ok (.iload 6, 2) := by decide +kernel
theorem dX11_hedges_81 : decode cX11_hedges 81 = .ok (.istore 5, 2) := by decide +kernel
theorem dX11_hedges_83 : decode cX11_hedges 83 = .ok (.iinc 6 1, 3) := by decide +kernel
theorem dX11_hedges_86 : decode cX11_hedges 86 = .ok (.goto (-54), 3) := by decide +kernel
theorem dX11_hedges_89 : decode cX11_hedges 89 = .ok (.iload 5, 2) := by decide +kernel
theorem dX11_hedges_91 : decode cX11_hedges 91 = .ok (.iconst (-1), 1) := by decide +kernel
theorem dX11_hedges_92 : decode cX11_hedges 92 = .ok (.if_icmp .eq 8, 3) := by decide +kernel
theorem dX11_hedges_95 : decode cX11_hedges 95 = .ok (.iload_n 3, 1) := by decide +kernel
theorem dX11_hedges_96 : decode cX11_hedges 96 = .ok (.iconst 1, 1) := by decide +kernel
theorem dX11_hedges_97 : decode cX11_hedges 97 = .ok (.if_icmp .ne 8, 3) := by decide +kernel
theorem dX11_hedges_100 : decode cX11_hedges 100 = .ok (.iload 5, 2) := by decide +kernel
theorem dX11_hedges_102 : decode cX11_hedges 102 = .ok (.goto 5, 3) := by decide +kernel
theorem dX11_hedges_105 : decode cX11_hedges 105 = .ok (.iload 4, 2) := by decide +kernel
theorem dX11_hedges_107 : decode cX11_hedges 107 = .ok (.ireturn, 1) := by decide +kernel
theorem dX11_isSavedBy_0 : decode cX11_isSavedBy 0 = .ok (.aload_n 0, 1) := by decide +kernel
theorem dX11_isSavedBy_1 : decode cX11_isSavedBy 1 = .ok (.getfield 62, 3) := by decide +kernel
theorem dX11_isSavedBy_4 : decode cX11_isSavedBy 4 = .ok (.aload_n 0, 1) := by decide +kernel
theorem dX11_isSavedBy_5 : decode cX11_isSavedBy 5 = .ok (.getfield 20, 3) := by decide +kernel
theorem dX11_isSavedBy_8 : decode cX11_isSavedBy 8 = .ok (.aload_n 0, 1) := by decide +kernel
theorem dX11_isSavedBy_9 : decode cX11_isSavedBy 9 = .ok (.getfield 34, 3) := by decide +kernel
theorem dX11_isSavedBy_12 : decode cX11_isSavedBy 12 = .ok (.invokevirtual 237, 3) := by decide +kernel
theorem dX11_isSavedBy_15 : decode cX11_isSavedBy 15 = .ok (.astore 4, 2) := by decide +kernel
theorem dX11_isSavedBy_17 : decode cX11_isSavedBy 17 = .ok (.iconst 0, 1) := by decide +kernel
theorem dX11_isSavedBy_18 : decode cX11_isSavedBy 18 = .ok (.istore 5, 2) := by decide +kernel
theorem dX11_isSavedBy_20 : decode cX11_isSavedBy 20 = .ok (.iload 5, 2) := by decide +kernel
theorem dX11_isSavedBy_22 : decode cX11_isSavedBy 22 = .ok (.aload 4, 2) := by decide +kernel
theorem dX11_isSavedBy_24 : decode cX11_isSavedBy 24 = .ok (.getfield 131, 3) := by decide +kernel
theorem dX11_isSavedBy_27 : decode cX11_isSavedBy 27 = .ok (.if_icmp .ge 35, 3) := by decide +kernel
theorem dX11_isSavedBy_30 : decode cX11_isSavedBy 30 = .ok (.iload 5, 2) := by decide +kernel
theorem dX11_isSavedBy_32 : decode cX11_isSavedBy 32 = .ok (.bipush 7, 2) := by decide +kernel
theorem dX11_isSavedBy_34 : decode cX11_isSavedBy 34 = .ok (.if_icmp .ge 28, 3) := by decide +kernel
theorem dX11_isSavedBy_37 : decode cX11_isSavedBy 37 = .ok (.iload_n 1, 1) := by decide +kernel
theorem dX11_isSavedBy_38 : decode cX11_isSavedBy 38 = .ok (.iload 5, 2) := by decide +kernel
theorem dX11_isSavedBy_40 : decode cX11_isSavedBy 40 = .ok (.ishr, 1) := by decide +kernel
theorem dX11_isSavedBy_41 : decode cX11_isSavedBy 41 = .ok (.iconst 1, 1) := by decide +kernel
theorem dX11_isSavedBy_42 : decode cX11_isSavedBy 42 = .ok (.iand, 1) := by decide +kernel
theorem dX11_isSavedBy_43 : decode cX11_isSavedBy 43 = .ok (.iconst 1, 1) := by decide +kernel
theorem dX11_isSavedBy_44 : decode cX11_isSavedBy 44 = .ok (.if_icmp .ne 12, 3) := by decide +kernel
theorem dX11_isSavedBy_47 : decode cX11_isSavedBy 47 = .ok (.aload 4, 2) := by decide +kernel
theorem dX11_isSavedBy_49 : decode cX11_isSavedBy 49 = .ok (.getfield 128, 3) := by decide +kernel
theorem dX11_isSavedBy_52 : decode cX11_isSavedBy 52 = .ok (.iload 5, 2) := by decide +kernel
theorem dX11_isSavedBy_54 : decode cX11_isSavedBy 54 = .ok (.iload_n 3, 1) := by decide +kernel
theorem dX11_isSavedBy_55 : decode cX11_isSavedBy 55 = .ok (.iastore, 1) := by decide +kernel
theorem dX11_isSavedBy_56 : decode cX11_isSavedBy 56 = .ok (.iinc 5 1, 3) := by decide +kernel
theorem dX11_isSavedBy_59 : decode cX11_isSavedBy 59 = .ok (.goto (-39), 3) := by decide +kernel
theorem dX11_isSavedBy_62 : decode cX11_isSavedBy 62 = .ok (.aload_n 0, 1) := by decide +kernel
theorem dX11_isSavedBy_63 : decode cX11_isSavedBy 63 = .ok (.getfield 62, 3) := by decide +kernel
theorem dX11_isSavedBy_66 : decode cX11_isSavedBy 66 = .ok (.iload_n 2, 1) := by decide +kernel
theorem dX11_isSavedBy_67 : decode cX11_isSavedBy 67 = .ok (.iload_n 3, 1) := by decide +kernel
theorem dX11_isSavedBy_68 : decode cX11_isSavedBy 68 = .ok (.invokevirtual 346, 3) := by decide +kernel
theorem dX11_isSavedBy_71 : decode cX11_isSavedBy 71 = .ok (.ifCond .ne 7, 3) := by decide +kernel
theorem dX11_isSavedBy_74 : decode cX11_isSavedBy 74 = .ok (.iconst 1, 1) := by decide +kernel
theorem dX11_isSavedBy_75 : decode cX11_isSavedBy 75 = .ok (.goto 4, 3) := by decide +kernel
theorem dX11_isSavedBy_78 : decode cX11_isSavedBy 78 = .ok (.iconst 0, 1) := by decide +kernel
theorem dX11_isSavedBy_79 : decode cX11_isSavedBy 79 = .ok (.ireturn, 1) := by decide +kernel
theorem dX11_bestHedge_0 : decode cX11_bestHedge 0 = .ok (.aload_n 0, 1) := by decide +kernel
theorem dX11_bestHedge_1 : decode cX11_bestHedge 1 = .ok (.iload_n 1, 1) := by decide +kernel
theorem dX11_bestHedge_2 : decode cX11_bestHedge 2 = .ok (.invokevirtual 291, 3) := by decide +kernel
theorem dX11_bestHedge_5 : decode cX11_bestHedge 5 = .ok (.aload_n 0, 1) := by decide +kernel
theorem dX11_bestHedge_6 : decode cX11_bestHedge 6 = .ok (.iload_n 1, 1) := by decide +kernel
theorem dX11_bestHedge_7 : decode cX11_bestHedge 7 = .ok (.invokevirtual 294, 3) := by decide +kernel
theorem dX11_bestHedge_10 : decode cX11_bestHedge 10 = .ok (.istore_n 2, 1) := by decide +kernel
theorem dX11_bestHedge_11 : decode cX11_bestHedge 11 = .ok (.iconst (-1), 1) := by decide +kernel
theorem dX11_bestHedge_12 : decode cX11_bestHedge 12 = .ok (.istore_n 3, 1) := by decide +kernel
theorem dX11_bestHedge_13 : decode cX11_bestHedge 13 = .ok (.iconst 0, 1) := by decide +kernel
theorem dX11_bestHedge_14 : decode cX11_bestHedge 14 = .ok (.istore 4, 2) := by decide +kernel
theorem dX11_bestHedge_16 : decode cX11_bestHedge 16 = .ok (.iload 4, 2) := by decide +kernel
theorem dX11_bestHedge_18 : decode cX11_bestHedge 18 = .ok (.aload_n 0, 1) := by decide +kernel
theorem dX11_bestHedge_19 : decode cX11_bestHedge 19 = .ok (.getfield 34, 3) := by decide +kernel
theorem dX11_bestHedge_22 : decode cX11_bestHedge 22 = .ok (.getfield 131, 3) := by decide +kernel
theorem dX11_bestHedge_25 : decode cX11_bestHedge 25 = .ok (.if_icmp .ge 61, 3) := by decide +kernel
theorem dX11_bestHedge_28 : decode cX11_bestHedge 28 = .ok (.iload 4, 2) := by decide +kernel
theorem dX11_bestHedge_30 : decode cX11_bestHedge 30 = .ok (.bipush 7, 2) := by decide +kernel
theorem dX11_bestHedge_32 : decode cX11_bestHedge 32 = .ok (.if_icmp .ge 54, 3) := by decide +kernel
theorem dX11_bestHedge_35 : decode cX11_bestHedge 35 = .ok (.aload_n 0, 1) := by decide +kernel
theorem dX11_bestHedge_36 : decode cX11_bestHedge 36 = .ok (.getfield 62, 3) := by decide +kernel
theorem dX11_bestHedge_39 : decode cX11_bestHedge 39 = .ok (.aload_n 0, 1) := by decide +kernel
theorem dX11_bestHedge_40 : decode cX11_bestHedge 40 = .ok (.getfield 20, 3) := by decide +kernel
theorem dX11_bestHedge_43 : decode cX11_bestHedge 43 = .ok (.aload_n 0, 1) := by decide +kernel
theorem dX11_bestHedge_44 : decode cX11_bestHedge 44 = .ok (.getfield 34, 3) := by decide +kernel
theorem dX11_bestHedge_47 : decode cX11_bestHedge 47 = .ok (.invokevirtual 237, 3) := by decide +kernel
theorem dX11_bestHedge_50 : decode cX11_bestHedge 50 = .ok (.getfield 128, 3) := by decide +kernel
theorem dX11_bestHedge_53 : decode cX11_bestHedge 53 = .ok (.iload 4, 2) := by decide +kernel
theorem dX11_bestHedge_55 : decode cX11_bestHedge 55 = .ok (.iload_n 1, 1) := by decide +kernel
theorem dX11_bestHedge_56 : decode cX11_bestHedge 56 = .ok (.iastore, 1) := by decide +kernel
theorem dX11_bestHedge_57 : decode cX11_bestHedge 57 = .ok (.aload_n 0, 1) := by decide +kernel
theorem dX11_bestHedge_58 : decode cX11_bestHedge 58 = .ok (.getfield 62, 3) := by decide +kernel
theorem dX11_bestHedge_61 : decode cX11_bestHedge 61 = .ok (.iload_n 1, 1) := by decide +kernel
theorem dX11_bestHedge_62 : decode cX11_bestHedge 62 = .ok (.iload_n 2, 1) := by decide +kernel
theorem dX11_bestHedge_63 : decode cX11_bestHedge 63 = .ok (.invokevirtual 307, 3) := by decide +kernel
theorem dX11_bestHedge_66 : decode cX11_bestHedge 66 = .ok (.istore 5, 2) := by decide +kernel
theorem dX11_bestHedge_68 : decode cX11_bestHedge 68 = .ok (.iload 5, 2) := by decide +kernel
theorem dX11_bestHedge_70 : decode cX11_bestHedge 70 = .ok (.iload_n 2, 1) := by decide +kernel
theorem dX11_bestHedge_71 : decode cX11_bestHedge 71 = .ok (.if_icmp .ge 9, 3) := by decide +kernel
theorem dX11_bestHedge_74 : decode cX11_bestHedge 74 = .ok (.iload 5, 2) := by decide +kernel
theorem dX11_bestHedge_76 : decode cX11_bestHedge 76 = .ok (.istore_n 2, 1) := by decide +kernel
theorem dX11_bestHedge_77 : decode cX11_bestHedge 77 = .ok (.iload 4, 2) := by decide +kernel
theorem dX11_bestHedge_79 : decode cX11_bestHedge 79 = .ok (.istore_n 3, 1) := by decide +kernel
theorem dX11_bestHedge_80 : decode cX11_bestHedge 80 = .ok (.iinc 4 1, 3) := by decide +kernel
theorem dX11_bestHedge_83 : decode cX11_bestHedge 83 = .ok (.goto (-67), 3) := by decide +kernel
theorem dX11_bestHedge_86 : decode cX11_bestHedge 86 = .ok (.iload_n 3, 1) := by decide +kernel
theorem dX11_bestHedge_87 : decode cX11_bestHedge 87 = .ok (.ireturn, 1) := by decide +kernel
theorem dX11_saves_0 : decode cX11_saves 0 = .ok (.aload_n 0, 1) := by decide +kernel
theorem dX11_saves_1 : decode cX11_saves 1 = .ok (.iload_n 1, 1) := by decide +kernel
theorem dX11_saves_2 : decode cX11_saves 2 = .ok (.invokevirtual 121, 3) := by decide +kernel
theorem dX11_saves_5 : decode cX11_saves 5 = .ok (.aload_n 0, 1) := by decide +kernel
theorem dX11_saves_6 : decode cX11_saves 6 = .ok (.iload_n 2, 1) := by decide +kernel
theorem dX11_saves_7 : decode cX11_saves 7 = .ok (.invokevirtual 291, 3) := by decide +kernel
theorem dX11_saves_10 : decode cX11_saves 10 = .ok (.aload_n 0, 1) := by decide +kernel
theorem dX11_saves_11 : decode cX11_saves 11 = .ok (.iload_n 1, 1) := by decide +kernel
theorem dX11_saves_12 : decode cX11_saves 12 = .ok (.invokevirtual 154, 3) := by decide +kernel
theorem dX11_saves_15 : decode cX11_saves 15 = .ok (.iconst 0, 1) := by decide +kernel
theorem dX11_saves_16 : decode cX11_saves 16 = .ok (.istore_n 3, 1) := by decide +kernel
theorem dX11_saves_17 : decode cX11_saves 17 = .ok (.iload_n 3, 1) := by decide +kernel
theorem dX11_saves_18 : decode cX11_saves 18 = .ok (.sipush 999, 3) := by decide +kernel
theorem dX11_saves_21 : decode cX11_saves 21 = .ok (.if_icmp .gt 59, 3) := by decide +kernel
theorem dX11_saves_24 : decode cX11_saves 24 = .ok (.aload_n 0, 1) := by decide +kernel
theorem dX11_saves_25 : decode cX11_saves 25 = .ok (.getfield 62, 3) := by decide +kernel
theorem dX11_saves_28 : decode cX11_saves 28 = .ok (.aload_n 0, 1) := by decide +kernel
theorem dX11_saves_29 : decode cX11_saves 29 = .ok (.getfield 20, 3) := by decide +kernel
theorem dX11_saves_32 : decode cX11_saves 32 = .ok (.aload_n 0, 1) := by decide +kernel
theorem dX11_saves_33 : decode cX11_saves 33 = .ok (.getfield 34, 3) := by decide +kernel
theorem dX11_saves_36 : decode cX11_saves 36 = .ok (.invokevirtual 237, 3) := by decide +kernel
theorem dX11_saves_39 : decode cX11_saves 39 = .ok (.getfield 146, 3) := by decide +kernel
theorem dX11_saves_42 : decode cX11_saves 42 = .ok (.iload_n 1, 1) := by decide +kernel
theorem dX11_saves_43 : decode cX11_saves 43 = .ok (.aload_n 0, 1) := by decide +kernel
theorem dX11_saves_44 : decode cX11_saves 44 = .ok (.getfield 34, 3) := by decide +kernel
theorem dX11_saves_47 : decode cX11_saves 47 = .ok (.getfield 146, 3) := by decide +kernel
theorem dX11_saves_50 : decode cX11_saves 50 = .ok (.iload_n 1, 1) := by decide +kernel
theorem dX11_saves_51 : decode cX11_saves 51 = .ok (.iaload, 1) := by decide +kernel
theorem dX11_saves_52 : decode cX11_saves 52 = .ok (.iload_n 3, 1) := by decide +kernel
theorem dX11_saves_53 : decode cX11_saves 53 = .ok (.iadd, 1) := by decide +kernel
theorem dX11_saves_54 : decode cX11_saves 54 = .ok (.ldc 161, 2) := by decide +kernel
theorem dX11_saves_56 : decode cX11_saves 56 = .ok (.invokestatic 333, 3) := by decide +kernel
theorem dX11_saves_59 : decode cX11_saves 59 = .ok (.iastore, 1) := by decide +kernel
theorem dX11_saves_60 : decode cX11_saves 60 = .ok (.aload_n 0, 1) := by decide +kernel
theorem dX11_saves_61 : decode cX11_saves 61 = .ok (.getfield 62, 3) := by decide +kernel
theorem dX11_saves_64 : decode cX11_saves 64 = .ok (.iload_n 1, 1) := by decide +kernel
theorem dX11_saves_65 : decode cX11_saves 65 = .ok (.iload_n 2, 1) := by decide +kernel
theorem dX11_saves_66 : decode cX11_saves 66 = .ok (.invokevirtual 346, 3) := by decide +kernel
theorem dX11_saves_69 : decode cX11_saves 69 = .ok (.ifCond .ne 5, 3) := by decide +kernel
theorem dX11_saves_72 : decode cX11_saves 72 = .ok (.iload_n 3, 1) := by decide +kernel
theorem dX11_saves_73 : decode cX11_saves 73 = .ok (.ireturn, 1) := by decide +kernel
theorem dX11_saves_74 : decode cX11_saves 74 = .ok (.iinc 3 1, 3) := by decide +kernel
theorem dX11_saves_77 : decode cX11_saves 77 = .ok (.goto (-60), 3) := by decide +kernel
theorem dX11_saves_80 : decode cX11_saves 80 = .ok (.iconst (-1), 1) := by decide +kernel
theorem dX11_saves_81 : decode cX11_saves 81 = .ok (.ireturn, 1) := by decide +kernel
theorem dX11_leastLimit_0 : decode cX11_leastLimit 0 = .ok (.aload_n 0, 1) := by decide +kernel
theorem dX11_leastLimit_1 : decode cX11_leastLimit 1 = .ok (.iload_n 1, 1) := by decide +kernel
theorem dX11_leastLimit_2 : decode cX11_leastLimit 2 = .ok (.invokevirtual 291, 3) := by decide +kernel
theorem dX11_leastLimit_5 : decode cX11_leastLimit 5 = .ok (.aload_n 0, 1) := by decide +kernel
theorem dX11_leastLimit_6 : decode cX11_leastLimit 6 = .ok (.getfield 62, 3) := by decide +kernel
theorem dX11_leastLimit_9 : decode cX11_leastLimit 9 = .ok (.aload_n 0, 1) := by decide +kernel
theorem dX11_leastLimit_10 : decode cX11_leastLimit 10 = .ok (.getfield 20, 3) := by decide +kernel
theorem dX11_leastLimit_13 : decode cX11_leastLimit 13 = .ok (.aload_n 0, 1) := by decide +kernel
theorem dX11_leastLimit_14 : decode cX11_leastLimit 14 = .ok (.getfield 34, 3) := by decide +kernel
theorem dX11_leastLimit_17 : decode cX11_leastLimit 17 = .ok (.invokevirtual 237, 3) := by decide +kernel
theorem dX11_leastLimit_20 : decode cX11_leastLimit 20 = .ok (.astore_n 2, 1) := by decide +kernel
theorem dX11_leastLimit_21 : decode cX11_leastLimit 21 = .ok (.iconst 0, 1) := by decide +kernel
theorem dX11_leastLimit_22 : decode cX11_leastLimit 22 = .ok (.istore_n 3, 1) := by decide +kernel
theorem dX11_leastLimit_23 : decode cX11_leastLimit 23 = .ok (.iconst 0, 1) := by decide +kernel
theorem dX11_leastLimit_24 : decode cX11_leastLimit 24 = .ok (.istore 4, 2) := by decide +kernel
theorem dX11_leastLimit_26 : decode cX11_leastLimit 26 = .ok (.iload 4, 2) := by decide +kernel
theorem dX11_leastLimit_28 : decode cX11_leastLimit 28 = .ok (.iload_n 1, 1) := by decide +kernel
theorem dX11_leastLimit_29 : decode cX11_leastLimit 29 = .ok (.if_icmp .ge 69, 3) := by decide +kernel
theorem dX11_leastLimit_32 : decode cX11_leastLimit 32 = .ok (.aload_n 0, 1) := by decide +kernel
theorem dX11_leastLimit_33 : decode cX11_leastLimit 33 = .ok (.getfield 62, 3) := by decide +kernel
theorem dX11_leastLimit_36 : decode cX11_leastLimit 36 = .ok (.aload_n 0, 1) := by decide +kernel
theorem dX11_leastLimit_37 : decode cX11_leastLimit 37 = .ok (.getfield 20, 3) := by decide +kernel
theorem dX11_leastLimit_40 : decode cX11_leastLimit 40 = .ok (.aload_n 2, 1) := by decide +kernel
theorem dX11_leastLimit_41 : decode cX11_leastLimit 41 = .ok (.ldc 161, 2) := by decide +kernel
theorem dX11_leastLimit_43 : decode cX11_leastLimit 43 = .ok (.invokevirtual 220, 3) := by decide +kernel
theorem dX11_leastLimit_46 : decode cX11_leastLimit 46 = .ok (.iconst 0, 1) := by decide +kernel
theorem dX11_leastLimit_47 : decode cX11_leastLimit 47 = .ok (.istore 5, 2) := by decide +kernel
theorem dX11_leastLimit_49 : decode cX11_leastLimit 49 = .ok (.iload 5, 2) := by decide +kernel
theorem dX11_leastLimit_51 : decode cX11_leastLimit 51 = .ok (.aload_n 2, 1) := by decide +kernel
theorem dX11_leastLimit_52 : decode cX11_leastLimit 52 = .ok (.getfield 131, 3) := by decide +kernel
theorem dX11_leastLimit_55 : decode cX11_leastLimit 55 = .ok (.if_icmp .ge 37, 3) := by decide +kernel
theorem dX11_leastLimit_58 : decode cX11_leastLimit 58 = .ok (.iload 5, 2) := by decide +kernel
theorem dX11_leastLimit_60 : decode cX11_leastLimit 60 = .ok (.bipush 7, 2) := by decide +kernel
theorem dX11_leastLimit_62 : decode cX11_leastLimit 62 = .ok (.if_icmp .ge 30, 3) := by decide +kernel
theorem dX11_leastLimit_65 : decode cX11_leastLimit 65 = .ok (.aload_n 2, 1) := by decide +kernel
theorem dX11_leastLimit_66 : decode cX11_leastLimit 66 = .ok (.iload 5, 2) := by decide +kernel
theorem dX11_leastLimit_68 : decode cX11_leastLimit 68 = .ok (.invokevirtual 183, 3) := by decide +kernel
theorem dX11_leastLimit_71 : decode cX11_leastLimit 71 = .ok (.ifCond .ne 15, 3) := by decide +kernel
theorem dX11_leastLimit_74 : decode cX11_leastLimit 74 = .ok (.iload_n 3, 1) := by decide +kernel
theorem dX11_leastLimit_75 : decode cX11_leastLimit 75 = .ok (.aload_n 2, 1) := by decide +kernel
theorem dX11_leastLimit_76 : decode cX11_leastLimit 76 = .ok (.getfield 124, 3) := by decide +kernel
theorem dX11_leastLimit_79 : decode cX11_leastLimit 79 = .ok (.iload 5, 2) := by decide +kernel
theorem dX11_leastLimit_81 : decode cX11_leastLimit 81 = .ok (.iaload, 1) := by decide +kernel
theorem dX11_leastLimit_82 : decode cX11_leastLimit 82 = .ok (.invokestatic 350, 3) := by decide +kernel
theorem dX11_leastLimit_85 : decode cX11_leastLimit 85 = .ok (.istore_n 3, 1) := by decide +kernel
theorem dX11_leastLimit_86 : decode cX11_leastLimit 86 = .ok (.iinc 5 1, 3) := by decide +kernel
theorem dX11_leastLimit_89 : decode cX11_leastLimit 89 = .ok (.goto (-40), 3) := by decide +kernel
theorem dX11_leastLimit_92 : decode cX11_leastLimit 92 = .ok (.iinc 4 1, 3) := by decide +kernel
theorem dX11_leastLimit_95 : decode cX11_leastLimit 95 = .ok (.goto (-69), 3) := by decide +kernel
theorem dX11_leastLimit_98 : decode cX11_leastLimit 98 = .ok (.iload_n 3, 1) := by decide +kernel
theorem dX11_leastLimit_99 : decode cX11_leastLimit 99 = .ok (.sipush 999, 3) := by decide +kernel
theorem dX11_leastLimit_102 : decode cX11_leastLimit 102 = .ok (.if_icmp .gt 7, 3) := by decide +kernel
theorem dX11_leastLimit_105 : decode cX11_leastLimit 105 = .ok (.iload_n 3, 1) := by decide +kernel
theorem dX11_leastLimit_106 : decode cX11_leastLimit 106 = .ok (.goto 4, 3) := by decide +kernel
theorem dX11_leastLimit_109 : decode cX11_leastLimit 109 = .ok (.iconst (-1), 1) := by decide +kernel
theorem dX11_leastLimit_110 : decode cX11_leastLimit 110 = .ok (.ireturn, 1) := by decide +kernel
theorem dX11_worth_0 : decode cX11_worth 0 = .ok (.aload_n 0, 1) := by decide +kernel
theorem dX11_worth_1 : decode cX11_worth 1 = .ok (.iload_n 1, 1) := by decide +kernel
theorem dX11_worth_2 : decode cX11_worth 2 = .ok (.invokevirtual 121, 3) := by decide +kernel
theorem dX11_worth_5 : decode cX11_worth 5 = .ok (.aload_n 0, 1) := by decide +kernel
theorem dX11_worth_6 : decode cX11_worth 6 = .ok (.iload_n 2, 1) := by decide +kernel
theorem dX11_worth_7 : decode cX11_worth 7 = .ok (.invokevirtual 291, 3) := by decide +kernel
theorem dX11_worth_10 : decode cX11_worth 10 = .ok (.aload_n 0, 1) := by decide +kernel
theorem dX11_worth_11 : decode cX11_worth 11 = .ok (.iload_n 1, 1) := by decide +kernel
theorem dX11_worth_12 : decode cX11_worth 12 = .ok (.invokevirtual 154, 3) := by decide +kernel
theorem dX11_worth_15 : decode cX11_worth 15 = .ok (.aload_n 0, 1) := by decide +kernel
theorem dX11_worth_16 : decode cX11_worth 16 = .ok (.iload_n 1, 1) := by decide +kernel
theorem dX11_worth_17 : decode cX11_worth 17 = .ok (.iload_n 2, 1) := by decide +kernel
theorem dX11_worth_18 : decode cX11_worth 18 = .ok (.invokevirtual 353, 3) := by decide +kernel
theorem dX11_worth_21 : decode cX11_worth 21 = .ok (.ireturn, 1) := by decide +kernel
theorem dX11_lossWithout_0 : decode cX11_lossWithout 0 = .ok (.aload_n 0, 1) := by decide +kernel
theorem dX11_lossWithout_1 : decode cX11_lossWithout 1 = .ok (.getfield 62, 3) := by decide +kernel
theorem dX11_lossWithout_4 : decode cX11_lossWithout 4 = .ok (.aload_n 0, 1) := by decide +kernel
theorem dX11_lossWithout_5 : decode cX11_lossWithout 5 = .ok (.getfield 20, 3) := by decide +kernel
theorem dX11_lossWithout_8 : decode cX11_lossWithout 8 = .ok (.aload_n 0, 1) := by decide +kernel
theorem dX11_lossWithout_9 : decode cX11_lossWithout 9 = .ok (.getfield 34, 3) := by decide +kernel
theorem dX11_lossWithout_12 : decode cX11_lossWithout 12 = .ok (.invokevirtual 237, 3) := by decide +kernel
theorem dX11_lossWithout_15 : decode cX11_lossWithout 15 = .ok (.astore_n 3, 1) := by decide +kernel
theorem dX11_lossWithout_16 : decode cX11_lossWithout 16 = .ok (.aload_n 0, 1) := by decide +kernel
theorem dX11_lossWithout_17 : decode cX11_lossWithout 17 = .ok (.getfield 62, 3) := by decide +kernel
theorem dX11_lossWithout_20 : decode cX11_lossWithout 20 = .ok (.iload_n 2, 1) := by decide +kernel
theorem dX11_lossWithout_21 : decode cX11_lossWithout 21 = .ok (.bipush 7, 2) := by decide +kernel
theorem dX11_lossWithout_23 : decode cX11_lossWithout 23 = .ok (.invokevirtual 307, 3) := by decide +kernel
theorem dX11_lossWithout_26 : decode cX11_lossWithout 26 = .ok (.istore 4, 2) := by decide +kernel
theorem dX11_lossWithout_28 : decode cX11_lossWithout 28 = .ok (.aload_n 3, 1) := by decide +kernel
theorem dX11_lossWithout_29 : decode cX11_lossWithout 29 = .ok (.iload_n 1, 1) := by decide +kernel
theorem dX11_lossWithout_30 : decode cX11_lossWithout 30 = .ok (.invokevirtual 183, 3) := by decide +kernel
theorem dX11_lossWithout_33 : decode cX11_lossWithout 33 = .ok (.ifCond .eq 10, 3) := by decide +kernel
theorem dX11_lossWithout_36 : decode cX11_lossWithout 36 = .ok (.iload 4, 2) := by decide +kernel
theorem dX11_lossWithout_38 : decode cX11_lossWithout 38 = .ok (.iconst 1, 1) := by decide +kernel
theorem dX11_lossWithout_39 : decode cX11_lossWithout 39 = .ok (.isub, 1) := by decide +kernel
theorem dX11_lossWithout_40 : decode cX11_lossWithout 40 = .ok (.goto 5, 3) := by decide +kernel
theorem dX11_lossWithout_43 : decode cX11_lossWithout 43 = .ok (.iload 4, 2) := by decide +kernel
theorem dX11_lossWithout_45 : decode cX11_lossWithout 45 = .ok (.istore 5, 2) := by decide +kernel
theorem dX11_lossWithout_47 : decode cX11_lossWithout 47 = .ok (.aload_n 0, 1) := by decide +kernel
theorem dX11_lossWithout_48 : decode cX11_lossWithout 48 = .ok (.getfield 62, 3) := by decide +kernel
theorem dX11_lossWithout_51 : decode cX11_lossWithout 51 = .ok (.aload_n 0, 1) := by decide +kernel
theorem dX11_lossWithout_52 : decode cX11_lossWithout 52 = .ok (.getfield 20, 3) := by decide +kernel
theorem dX11_lossWithout_55 : decode cX11_lossWithout 55 = .ok (.aload_n 0, 1) := by decide +kernel
theorem dX11_lossWithout_56 : decode cX11_lossWithout 56 = .ok (.getfield 34, 3) := by decide +kernel
theorem dX11_lossWithout_59 : decode cX11_lossWithout 59 = .ok (.invokevirtual 237, 3) := by decide +kernel
theorem dX11_lossWithout_62 : decode cX11_lossWithout 62 = .ok (.iload_n 1, 1) := by decide +kernel
theorem dX11_lossWithout_63 : decode cX11_lossWithout 63 = .ok (.invokevirtual 356, 3) := by decide +kernel
theorem dX11_lossWithout_66 : decode cX11_lossWithout 66 = .ok (.aload_n 0, 1) := by decide +kernel
theorem dX11_lossWithout_67 : decode cX11_lossWithout 67 = .ok (.getfield 62, 3) := by decide +kernel
theorem dX11_lossWithout_70 : decode cX11_lossWithout 70 = .ok (.iload_n 2, 1) := by decide +kernel
theorem dX11_lossWithout_71 : decode cX11_lossWithout 71 = .ok (.bipush 7, 2) := by decide +kernel
theorem dX11_lossWithout_73 : decode cX11_lossWithout 73 = .ok (.invokevirtual 307, 3) := by decide +kernel
theorem dX11_lossWithout_76 : decode cX11_lossWithout 76 = .ok (.iload 5, 2) := by decide +kernel
theorem dX11_lossWithout_78 : decode cX11_lossWithout 78 = .ok (.isub, 1) := by decide +kernel
theorem dX11_lossWithout_79 : decode cX11_lossWithout 79 = .ok (.ireturn, 1) := by decide +kernel
theorem dX11_pillar_0 : decode cX11_pillar 0 = .ok (.aload_n 0, 1) := by decide +kernel
theorem dX11_pillar_1 : decode cX11_pillar 1 = .ok (.iload_n 1, 1) := by decide +kernel
theorem dX11_pillar_2 : decode cX11_pillar 2 = .ok (.invokevirtual 291, 3) := by decide +kernel
theorem dX11_pillar_5 : decode cX11_pillar 5 = .ok (.bipush 6, 2) := by decide +kernel
theorem dX11_pillar_7 : decode cX11_pillar 7 = .ok (.istore_n 2, 1) := by decide +kernel
theorem dX11_pillar_8 : decode cX11_pillar 8 = .ok (.iload_n 2, 1) := by decide +kernel
theorem dX11_pillar_9 : decode cX11_pillar 9 = .ok (.ifCond .lt 42, 3) := by decide +kernel
theorem dX11_pillar_12 : decode cX11_pillar 12 = .ok (.aload_n 0, 1) := by decide +kernel
theorem dX11_pillar_13 : decode cX11_pillar 13 = .ok (.getfield 34, 3) := by decide +kernel
theorem dX11_pillar_16 : decode cX11_pillar 16 = .ok (.iload_n 2, 1) := by decide +kernel
theorem dX11_pillar_17 : decode cX11_pillar 17 = .ok (.invokevirtual 174, 3) := by decide +kernel
theorem dX11_pillar_20 : decode cX11_pillar 20 = .ok (.ifCond .eq 25, 3) := by decide +kernel
theorem dX11_pillar_23 : decode cX11_pillar 23 = .ok (.aload_n 0, 1) := by decide +kernel
theorem dX11_pillar_24 : decode cX11_pillar 24 = .ok (.getfield 34, 3) := by decide +kernel
theorem dX11_pillar_27 : decode cX11_pillar 27 = .ok (.iload_n 2, 1) := by decide +kernel
theorem dX11_pillar_28 : decode cX11_pillar 28 = .ok (.invokevirtual 183, 3) := by decide +kernel
theorem dX11_pillar_31 : decode cX11_pillar 31 = .ok (.ifCond .ne 14, 3) := by decide +kernel
theorem dX11_pillar_34 : decode cX11_pillar 34 = .ok (.aload_n 0, 1) := by decide +kernel
theorem dX11_pillar_35 : decode cX11_pillar 35 = .ok (.iload_n 2, 1) := by decide +kernel
theorem dX11_pillar_36 : decode cX11_pillar 36 = .ok (.iload_n 1, 1) := by decide +kernel
theorem dX11_pillar_37 : decode cX11_pillar 37 = .ok (.invokevirtual 353, 3) := by decide +kernel
theorem dX11_pillar_40 : decode cX11_pillar 40 = .ok (.ifCond .le 5, 3) := by decide +kernel
theorem dX11_pillar_43 : decode cX11_pillar 43 = .ok (.iload_n 2, 1) := by decide +kernel
theorem dX11_pillar_44 : decode cX11_pillar 44 = .ok (.ireturn, 1) := by decide +kernel
theorem dX11_pillar_45 : decode cX11_pillar 45 = .ok (.iinc 2 (-1), 3) := by decide +kernel
theorem dX11_pillar_48 : decode cX11_pillar 48 = .ok (.goto (-40), 3) := by decide +kernel
theorem dX11_pillar_51 : decode cX11_pillar 51 = .ok (.iconst (-1), 1) := by decide +kernel
theorem dX11_pillar_52 : decode cX11_pillar 52 = .ok (.ireturn, 1) := by decide +kernel
theorem dX11_seen_0 : decode cX11_seen 0 = .ok (.aload_n 0, 1) := by decide +kernel
theorem dX11_seen_1 : decode cX11_seen 1 = .ok (.getfield 76, 3) := by decide +kernel
theorem dX11_seen_4 : decode cX11_seen 4 = .ok (.aload_n 0, 1) := by decide +kernel
theorem dX11_seen_5 : decode cX11_seen 5 = .ok (.getfield 62, 3) := by decide +kernel
theorem dX11_seen_8 : decode cX11_seen 8 = .ok (.aload_n 0, 1) := by decide +kernel
theorem dX11_seen_9 : decode cX11_seen 9 = .ok (.getfield 20, 3) := by decide +kernel
theorem dX11_seen_12 : decode cX11_seen 12 = .ok (.aload_n 0, 1) := by decide +kernel
theorem dX11_seen_13 : decode cX11_seen 13 = .ok (.iload_n 1, 1) := by decide +kernel
theorem dX11_seen_14 : decode cX11_seen 14 = .ok (.iload_n 2, 1) := by decide +kernel
theorem dX11_seen_15 : decode cX11_seen 15 = .ok (.invokevirtual 359, 3) := by decide +kernel
theorem dX11_seen_18 : decode cX11_seen 18 = .ok (.iload_n 2, 1) := by decide +kernel
theorem dX11_seen_19 : decode cX11_seen 19 = .ok (.invokevirtual 363, 3) := by decide +kernel
theorem dX11_seen_22 : decode cX11_seen 22 = .ok (.aload_n 0, 1) := by decide +kernel
theorem dX11_seen_23 : decode cX11_seen 23 = .ok (.getfield 76, 3) := by decide +kernel
theorem dX11_seen_26 : decode cX11_seen 26 = .ok (.getfield 367, 3) := by decide +kernel
theorem dX11_seen_29 : decode cX11_seen 29 = .ok (.ireturn, 1) := by decide +kernel
theorem dX11_hidden_0 : decode cX11_hidden 0 = .ok (.aload_n 0, 1) := by decide +kernel
theorem dX11_hidden_1 : decode cX11_hidden 1 = .ok (.iload_n 1, 1) := by decide +kernel
theorem dX11_hidden_2 : decode cX11_hidden 2 = .ok (.iload_n 2, 1) := by decide +kernel
theorem dX11_hidden_3 : decode cX11_hidden 3 = .ok (.invokevirtual 359, 3) := by decide +kernel
theorem dX11_hidden_6 : decode cX11_hidden 6 = .ok (.astore 4, 2) := by decide +kernel
theorem dX11_hidden_8 : decode cX11_hidden 8 = .ok (.iload_n 3, 1) := by decide +kernel
theorem dX11_hidden_9 : decode cX11_hidden 9 = .ok (.ifCond .ge 14, 3) := by decide +kernel
theorem dX11_hidden_12 : decode cX11_hidden 12 = .ok (.new 87, 3) := by decide +kernel
theorem dX11_hidden_15 : decode cX11_hidden 15 = .ok (.dup, 1) := by decide +kernel
theorem dX11_hidden_16 : decode cX11_hidden 16 = .ok (.ldc_w 370, 3) := by decide +kernel
theorem dX11_hidden_19 : decode cX11_hidden 19 = .ok (.invokespecial 91, 3) := by decide +kernel
theorem dX11_hidden_22 : decode cX11_hidden 22 = .ok (.athrow, 1) := by decide +kernel
theorem dX11_hidden_23 : decode cX11_hidden 23 = .ok (.aload_n 0, 1) := by decide +kernel
theorem dX11_hidden_24 : decode cX11_hidden 24 = .ok (.getfield 76, 3) := by decide +kernel
theorem dX11_hidden_27 : decode cX11_hidden 27 = .ok (.aload_n 0, 1) := by decide +kernel
theorem dX11_hidden_28 : decode cX11_hidden 28 = .ok (.getfield 62, 3) := by decide +kernel
theorem dX11_hidden_31 : decode cX11_hidden 31 = .ok (.aload_n 0, 1) := by decide +kernel
theorem dX11_hidden_32 : decode cX11_hidden 32 = .ok (.getfield 20, 3) := by decide +kernel
theorem dX11_hidden_35 : decode cX11_hidden 35 = .ok (.aload 4, 2) := by decide +kernel
theorem dX11_hidden_37 : decode cX11_hidden 37 = .ok (.iload_n 2, 1) := by decide +kernel
theorem dX11_hidden_38 : decode cX11_hidden 38 = .ok (.invokevirtual 363, 3) := by decide +kernel
theorem dX11_hidden_41 : decode cX11_hidden 41 = .ok (.iload_n 3, 1) := by decide +kernel
theorem dX11_hidden_42 : decode cX11_hidden 42 = .ok (.aload_n 0, 1) := by decide +kernel
theorem dX11_hidden_43 : decode cX11_hidden 43 = .ok (.getfield 76, 3) := by decide +kernel
theorem dX11_hidden_46 : decode cX11_hidden 46 = .ok (.getfield 367, 3) := by decide +kernel
theorem dX11_hidden_49 : decode cX11_hidden 49 = .ok (.if_icmp .ge 27, 3) := by decide +kernel
theorem dX11_hidden_52 : decode cX11_hidden 52 = .ok (.iload_n 3, 1) := by decide +kernel
theorem dX11_hidden_53 : decode cX11_hidden 53 = .ok (.aload_n 0, 1) := by decide +kernel
theorem dX11_hidden_54 : decode cX11_hidden 54 = .ok (.getfield 76, 3) := by decide +kernel
theorem dX11_hidden_57 : decode cX11_hidden 57 = .ok (.getfield 372, 3) := by decide +kernel
theorem dX11_hidden_60 : decode cX11_hidden 60 = .ok (.arraylength, 1) := by decide +kernel
theorem dX11_hidden_61 : decode cX11_hidden 61 = .ok (.if_icmp .ge 15, 3) := by decide +kernel
theorem dX11_hidden_64 : decode cX11_hidden 64 = .ok (.aload_n 0, 1) := by decide +kernel
theorem dX11_hidden_65 : decode cX11_hidden 65 = .ok (.getfield 76, 3) := by decide +kernel
theorem dX11_hidden_68 : decode cX11_hidden 68 = .ok (.getfield 372, 3) := by decide +kernel
theorem dX11_hidden_71 : decode cX11_hidden 71 = .ok (.iload_n 3, 1) := by decide +kernel
theorem dX11_hidden_72 : decode cX11_hidden 72 = .ok (.iaload, 1) := by decide +kernel
theorem dX11_hidden_73 : decode cX11_hidden 73 = .ok (.goto 4, 3) := by decide +kernel
theorem dX11_hidden_76 : decode cX11_hidden 76 = .ok (.iconst (-1), 1) := by decide +kernel
theorem dX11_hidden_77 : decode cX11_hidden 77 = .ok (.ireturn, 1) := by decide +kernel
theorem dX11_look_0 : decode cX11_look 0 = .ok (.aload_n 0, 1) := by decide +kernel
theorem dX11_look_1 : decode cX11_look 1 = .ok (.getfield 76, 3) := by decide +kernel
theorem dX11_look_4 : decode cX11_look 4 = .ok (.aload_n 0, 1) := by decide +kernel
theorem dX11_look_5 : decode cX11_look 5 = .ok (.getfield 62, 3) := by decide +kernel
theorem dX11_look_8 : decode cX11_look 8 = .ok (.aload_n 0, 1) := by decide +kernel
theorem dX11_look_9 : decode cX11_look 9 = .ok (.getfield 20, 3) := by decide +kernel
theorem dX11_look_12 : decode cX11_look 12 = .ok (.aload_n 0, 1) := by decide +kernel
theorem dX11_look_13 : decode cX11_look 13 = .ok (.iload_n 1, 1) := by decide +kernel
theorem dX11_look_14 : decode cX11_look 14 = .ok (.iload_n 2, 1) := by decide +kernel
theorem dX11_look_15 : decode cX11_look 15 = .ok (.invokevirtual 359, 3) := by decide +kernel
theorem dX11_look_18 : decode cX11_look 18 = .ok (.iload_n 2, 1) := by decide +kernel
theorem dX11_look_19 : decode cX11_look 19 = .ok (.invokevirtual 363, 3) := by decide +kernel
theorem dX11_look_22 : decode cX11_look 22 = .ok (.aload_n 0, 1) := by decide +kernel
theorem dX11_look_23 : decode cX11_look 23 = .ok (.getfield 76, 3) := by decide +kernel
theorem dX11_look_26 : decode cX11_look 26 = .ok (.aload_n 0, 1) := by decide +kernel
theorem dX11_look_27 : decode cX11_look 27 = .ok (.getfield 34, 3) := by decide +kernel
theorem dX11_look_30 : decode cX11_look 30 = .ok (.getfield 131, 3) := by decide +kernel
theorem dX11_look_33 : decode cX11_look 33 = .ok (.invokevirtual 375, 3) := by decide +kernel
theorem dX11_look_36 : decode cX11_look 36 = .ok (.ireturn, 1) := by decide +kernel
theorem dX11_seenTray_0 : decode cX11_seenTray 0 = .ok (.aload_n 0, 1) := by decide +kernel
theorem dX11_seenTray_1 : decode cX11_seenTray 1 = .ok (.iload_n 1, 1) := by decide +kernel
theorem dX11_seenTray_2 : decode cX11_seenTray 2 = .ok (.invokevirtual 378, 3) := by decide +kernel
theorem dX11_seenTray_5 : decode cX11_seenTray 5 = .ok (.aload_n 0, 1) := by decide +kernel
theorem dX11_seenTray_6 : decode cX11_seenTray 6 = .ok (.iload_n 2, 1) := by decide +kernel
theorem dX11_seenTray_7 : decode cX11_seenTray 7 = .ok (.invokevirtual 121, 3) := by decide +kernel
theorem dX11_seenTray_10 : decode cX11_seenTray 10 = .ok (.aload_n 0, 1) := by decide +kernel
theorem dX11_seenTray_11 : decode cX11_seenTray 11 = .ok (.iload_n 1, 1) := by decide +kernel
theorem dX11_seenTray_12 : decode cX11_seenTray 12 = .ok (.invokevirtual 233, 3) := by decide +kernel
theorem dX11_seenTray_15 : decode cX11_seenTray 15 = .ok (.astore_n 3, 1) := by decide +kernel
theorem dX11_seenTray_16 : decode cX11_seenTray 16 = .ok (.aload_n 3, 1) := by decide +kernel
theorem dX11_seenTray_17 : decode cX11_seenTray 17 = .ok (.getfield 241, 3) := by decide +kernel
theorem dX11_seenTray_20 : decode cX11_seenTray 20 = .ok (.iconst 1, 1) := by decide +kernel
theorem dX11_seenTray_21 : decode cX11_seenTray 21 = .ok (.if_icmp .lt 12, 3) := by decide +kernel
theorem dX11_seenTray_24 : decode cX11_seenTray 24 = .ok (.aload_n 3, 1) := by decide +kernel
theorem dX11_seenTray_25 : decode cX11_seenTray 25 = .ok (.getfield 241, 3) := by decide +kernel
theorem dX11_seenTray_28 : decode cX11_seenTray 28 = .ok (.bipush 12, 2) := by decide +kernel
theorem dX11_seenTray_30 : decode cX11_seenTray 30 = .ok (.if_icmp .le 14, 3) := by decide +kernel
theorem dX11_seenTray_33 : decode cX11_seenTray 33 = .ok (.new 87, 3) := by decide +kernel
theorem dX11_seenTray_36 : decode cX11_seenTray 36 = .ok (.dup, 1) := by decide +kernel
theorem dX11_seenTray_37 : decode cX11_seenTray 37 = .ok (.ldc_w 381, 3) := by decide +kernel
theorem dX11_seenTray_40 : decode cX11_seenTray 40 = .ok (.invokespecial 91, 3) := by decide +kernel
theorem dX11_seenTray_43 : decode cX11_seenTray 43 = .ok (.athrow, 1) := by decide +kernel
theorem dX11_seenTray_44 : decode cX11_seenTray 44 = .ok (.iconst 0, 1) := by decide +kernel
theorem dX11_seenTray_45 : decode cX11_seenTray 45 = .ok (.istore 4, 2) := by decide +kernel
theorem dX11_seenTray_47 : decode cX11_seenTray 47 = .ok (.iload 4, 2) := by decide +kernel
theorem dX11_seenTray_49 : decode cX11_seenTray 49 = .ok (.aload_n 3, 1) := by decide +kernel
theorem dX11_seenTray_50 : decode cX11_seenTray 50 = .ok (.getfield 241, 3) := by decide +kernel
theorem dX11_seenTray_53 : decode cX11_seenTray 53 = .ok (.if_icmp .ge 46, 3) := by decide +kernel
theorem dX11_seenTray_56 : decode cX11_seenTray 56 = .ok (.aload_n 3, 1) := by decide +kernel
theorem dX11_seenTray_57 : decode cX11_seenTray 57 = .ok (.iload 4, 2) := by decide +kernel
theorem dX11_seenTray_59 : decode cX11_seenTray 59 = .ok (.invokevirtual 242, 3) := by decide +kernel
theorem dX11_seenTray_62 : decode cX11_seenTray 62 = .ok (.ldc2_w 276, 3) := by decide +kernel
theorem dX11_seenTray_65 : decode cX11_seenTray 65 = .ok (.lcmp, 1) := by decide +kernel
theorem dX11_seenTray_66 : decode cX11_seenTray 66 = .ok (.ifCond .lt 16, 3) := by decide +kernel
theorem dX11_seenTray_69 : decode cX11_seenTray 69 = .ok (.aload_n 3, 1) := by decide +kernel
theorem dX11_seenTray_70 : decode cX11_seenTray 70 = .ok (.iload 4, 2) := by decide +kernel
theorem dX11_seenTray_72 : decode cX11_seenTray 72 = .ok (.invokevirtual 242, 3) := by decide +kernel
theorem dX11_seenTray_75 : decode cX11_seenTray 75 = .ok (.ldc2_w 383, 3) := by decide +kernel
theorem dX11_seenTray_78 : decode cX11_seenTray 78 = .ok (.lcmp, 1) := by decide +kernel
theorem dX11_seenTray_79 : decode cX11_seenTray 79 = .ok (.ifCond .le 14, 3) := by decide +kernel
theorem dX11_seenTray_82 : decode cX11_seenTray 82 = .ok (.new 87, 3) := by decide +kernel
theorem dX11_seenTray_85 : decode cX11_seenTray 85 = .ok (.dup, 1) := by decide +kernel
theorem dX11_seenTray_86 : decode cX11_seenTray 86 = .ok (.ldc_w 385, 3) := by decide +kernel
theorem dX11_seenTray_89 : decode cX11_seenTray 89 = .ok (.invokespecial 91, 3) := by decide +kernel
theorem dX11_seenTray_92 : decode cX11_seenTray 92 = .ok (.athrow, 1) := by decide +kernel
theorem dX11_seenTray_93 : decode cX11_seenTray 93 = .ok (.iinc 4 1, 3) := by decide +kernel
theorem dX11_seenTray_96 : decode cX11_seenTray 96 = .ok (.goto (-49), 3) := by decide +kernel
theorem dX11_seenTray_99 : decode cX11_seenTray 99 = .ok (.aload_n 3, 1) := by decide +kernel
theorem dX11_seenTray_100 : decode cX11_seenTray 100 = .ok (.areturn, 1) := by decide +kernel
theorem dX11_tray_0 : decode cX11_tray 0 = .ok (.aload_n 0, 1) := by decide +kernel
theorem dX11_tray_1 : decode cX11_tray 1 = .ok (.iload_n 1, 1) := by decide +kernel
theorem dX11_tray_2 : decode cX11_tray 2 = .ok (.invokevirtual 378, 3) := by decide +kernel
theorem dX11_tray_5 : decode cX11_tray 5 = .ok (.aload_n 0, 1) := by decide +kernel
theorem dX11_tray_6 : decode cX11_tray 6 = .ok (.iload_n 2, 1) := by decide +kernel
theorem dX11_tray_7 : decode cX11_tray 7 = .ok (.iconst 0, 1) := by decide +kernel
theorem dX11_tray_8 : decode cX11_tray 8 = .ok (.iconst 3, 1) := by decide +kernel
theorem dX11_tray_9 : decode cX11_tray 9 = .ok (.invokevirtual 162, 3) := by decide +kernel
theorem dX11_tray_12 : decode cX11_tray 12 = .ok (.aload_n 0, 1) := by decide +kernel
theorem dX11_tray_13 : decode cX11_tray 13 = .ok (.iload_n 3, 1) := by decide +kernel
theorem dX11_tray_14 : decode cX11_tray 14 = .ok (.iconst 0, 1) := by decide +kernel
theorem dX11_tray_15 : decode cX11_tray 15 = .ok (.bipush 30, 2) := by decide +kernel
theorem dX11_tray_17 : decode cX11_tray 17 = .ok (.invokevirtual 162, 3) := by decide +kernel
theorem dX11_tray_20 : decode cX11_tray 20 = .ok (.aload_n 0, 1) := by decide +kernel
theorem dX11_tray_21 : decode cX11_tray 21 = .ok (.getfield 54, 3) := by decide +kernel
theorem dX11_tray_24 : decode cX11_tray 24 = .ok (.iload_n 1, 1) := by decide +kernel
theorem dX11_tray_25 : decode cX11_tray 25 = .ok (.aaload, 1) := by decide +kernel
theorem dX11_tray_26 : decode cX11_tray 26 = .ok (.iload_n 2, 1) := by decide +kernel
theorem dX11_tray_27 : decode cX11_tray 27 = .ok (.iload_n 3, 1) := by decide +kernel
theorem dX11_tray_28 : decode cX11_tray 28 = .ok (.invokevirtual 387, 3) := by decide +kernel
theorem dX11_tray_31 : decode cX11_tray 31 = .ok (.return_, 1) := by decide +kernel
theorem dX11_write_0 : decode cX11_write 0 = .ok (.aload_n 0, 1) := by decide +kernel
theorem dX11_write_1 : decode cX11_write 1 = .ok (.iload_n 1, 1) := by decide +kernel
theorem dX11_write_2 : decode cX11_write 2 = .ok (.invokevirtual 233, 3) := by decide +kernel
theorem dX11_write_5 : decode cX11_write 5 = .ok (.astore 5, 2) := by decide +kernel
theorem dX11_write_7 : decode cX11_write 7 = .ok (.iload_n 2, 1) := by decide +kernel
theorem dX11_write_8 : decode cX11_write 8 = .ok (.ifCond .lt 12, 3) := by decide +kernel
theorem dX11_write_11 : decode cX11_write 11 = .ok (.iload_n 2, 1) := by decide +kernel
theorem dX11_write_12 : decode cX11_write 12 = .ok (.aload 5, 2) := by decide +kernel
theorem dX11_write_14 : decode cX11_write 14 = .ok (.getfield 241, 3) := by decide +kernel
theorem dX11_write_17 : decode cX11_write 17 = .ok (.if_icmp .lt 14, 3) := by decide +kernel
theorem dX11_write_20 : decode cX11_write 20 = .ok (.new 390, 3) := by decide +kernel
theorem dX11_write_23 : decode cX11_write 23 = .ok (.dup, 1) := by decide +kernel
theorem dX11_write_24 : decode cX11_write 24 = .ok (.ldc_w 392, 3) := by decide +kernel
theorem dX11_write_27 : decode cX11_write 27 = .ok (.invokespecial 394, 3) := by decide +kernel
theorem dX11_write_30 : decode cX11_write 30 = .ok (.athrow, 1) := by decide +kernel
theorem dX11_write_31 : decode cX11_write 31 = .ok (.aload 5, 2) := by decide +kernel
theorem dX11_write_33 : decode cX11_write 33 = .ok (.iload_n 2, 1) := by decide +kernel
theorem dX11_write_34 : decode cX11_write 34 = .ok (.lload_n 3, 1) := by decide +kernel
theorem dX11_write_35 : decode cX11_write 35 = .ok (.invokevirtual 395, 3) := by decide +kernel
theorem dX11_write_38 : decode cX11_write 38 = .ok (.aload 5, 2) := by decide +kernel
theorem dX11_write_40 : decode cX11_write 40 = .ok (.iload_n 2, 1) := by decide +kernel
theorem dX11_write_41 : decode cX11_write 41 = .ok (.invokevirtual 242, 3) := by decide +kernel
theorem dX11_write_44 : decode cX11_write 44 = .ok (.lreturn, 1) := by decide +kernel
theorem dX11_copy_0 : decode cX11_copy 0 = .ok (.aload_n 0, 1) := by decide +kernel
theorem dX11_copy_1 : decode cX11_copy 1 = .ok (.iload_n 1, 1) := by decide +kernel
theorem dX11_copy_2 : decode cX11_copy 2 = .ok (.invokevirtual 378, 3) := by decide +kernel
theorem dX11_copy_5 : decode cX11_copy 5 = .ok (.aload_n 0, 1) := by decide +kernel
theorem dX11_copy_6 : decode cX11_copy 6 = .ok (.iload_n 2, 1) := by decide +kernel
theorem dX11_copy_7 : decode cX11_copy 7 = .ok (.invokevirtual 121, 3) := by decide +kernel
theorem dX11_copy_10 : decode cX11_copy 10 = .ok (.aload_n 0, 1) := by decide +kernel
theorem dX11_copy_11 : decode cX11_copy 11 = .ok (.iload_n 1, 1) := by decide +kernel
theorem dX11_copy_12 : decode cX11_copy 12 = .ok (.invokevirtual 233, 3) := by decide +kernel
theorem dX11_copy_15 : decode cX11_copy 15 = .ok (.astore_n 3, 1) := by decide +kernel
theorem dX11_copy_16 : decode cX11_copy 16 = .ok (.aload_n 0, 1) := by decide +kernel
theorem dX11_copy_17 : decode cX11_copy 17 = .ok (.getfield 62, 3) := by decide +kernel
theorem dX11_copy_20 : decode cX11_copy 20 = .ok (.aload_n 0, 1) := by decide +kernel
theorem dX11_copy_21 : decode cX11_copy 21 = .ok (.getfield 20, 3) := by decide +kernel
theorem dX11_copy_24 : decode cX11_copy 24 = .ok (.aload_n 0, 1) := by decide +kernel
theorem dX11_copy_25 : decode cX11_copy 25 = .ok (.getfield 34, 3) := by decide +kernel
theorem dX11_copy_28 : decode cX11_copy 28 = .ok (.invokevirtual 237, 3) := by decide +kernel
theorem dX11_copy_31 : decode cX11_copy 31 = .ok (.astore 4, 2) := by decide +kernel
theorem dX11_copy_33 : decode cX11_copy 33 = .ok (.iconst 0, 1) := by decide +kernel
theorem dX11_copy_34 : decode cX11_copy 34 = .ok (.istore 5, 2) := by decide +kernel
theorem dX11_copy_36 : decode cX11_copy 36 = .ok (.iload 5, 2) := by decide +kernel
theorem dX11_copy_38 : decode cX11_copy 38 = .ok (.aload_n 3, 1) := by decide +kernel
theorem dX11_copy_39 : decode cX11_copy 39 = .ok (.getfield 241, 3) := by decide +kernel
theorem dX11_copy_42 : decode cX11_copy 42 = .ok (.if_icmp .ge 45, 3) := by decide +kernel
theorem dX11_copy_45 : decode cX11_copy 45 = .ok (.aload_n 0, 1) := by decide +kernel
theorem dX11_copy_46 : decode cX11_copy 46 = .ok (.getfield 62, 3) := by decide +kernel
theorem dX11_copy_49 : decode cX11_copy 49 = .ok (.aload_n 0, 1) := by decide +kernel
theorem dX11_copy_50 : decode cX11_copy 50 = .ok (.getfield 20, 3) := by decide +kernel
theorem dX11_copy_53 : decode cX11_copy 53 = .ok (.aload 4, 2) := by decide +kernel
theorem dX11_copy_55 : decode cX11_copy 55 = .ok (.aload_n 0, 1) := by decide +kernel
theorem dX11_copy_56 : decode cX11_copy 56 = .ok (.getfield 20, 3) := by decide +kernel
theorem dX11_copy_59 : decode cX11_copy 59 = .ok (.getfield 217, 3) := by decide +kernel
theorem dX11_copy_62 : decode cX11_copy 62 = .ok (.invokevirtual 220, 3) := by decide +kernel
theorem dX11_copy_65 : decode cX11_copy 65 = .ok (.aload_n 3, 1) := by decide +kernel
theorem dX11_copy_66 : decode cX11_copy 66 = .ok (.iload 5, 2) := by decide +kernel
theorem dX11_copy_68 : decode cX11_copy 68 = .ok (.aload_n 0, 1) := by decide +kernel
theorem dX11_copy_69 : decode cX11_copy 69 = .ok (.getfield 62, 3) := by decide +kernel
theorem dX11_copy_72 : decode cX11_copy 72 = .ok (.getfield 399, 3) := by decide +kernel
theorem dX11_copy_75 : decode cX11_copy 75 = .ok (.iload_n 2, 1) := by decide +kernel
theorem dX11_copy_76 : decode cX11_copy 76 = .ok (.iaload, 1) := by decide +kernel
theorem dX11_copy_77 : decode cX11_copy 77 = .ok (.i2l, 1) := by decide +kernel
theorem dX11_copy_78 : decode cX11_copy 78 = .ok (.invokevirtual 395, 3) := by decide +kernel
theorem dX11_copy_81 : decode cX11_copy 81 = .ok (.iinc 5 1, 3) := by decide +kernel
theorem dX11_copy_84 : decode cX11_copy 84 = .ok (.goto (-48), 3) := by decide +kernel
theorem dX11_copy_87 : decode cX11_copy 87 = .ok (.aload_n 3, 1) := by decide +kernel
theorem dX11_copy_88 : decode cX11_copy 88 = .ok (.getfield 241, 3) := by decide +kernel
theorem dX11_copy_91 : decode cX11_copy 91 = .ok (.ireturn, 1) := by decide +kernel
theorem dX11_checkTray_0 : decode cX11_checkTray 0 = .ok (.iload_n 1, 1) := by decide +kernel
theorem dX11_checkTray_1 : decode cX11_checkTray 1 = .ok (.ifCond .lt 12, 3) := by decide +kernel
theorem dX11_checkTray_4 : decode cX11_checkTray 4 = .ok (.iload_n 1, 1) := by decide +kernel
theorem dX11_checkTray_5 : decode cX11_checkTray 5 = .ok (.aload_n 0, 1) := by decide +kernel
theorem dX11_checkTray_6 : decode cX11_checkTray 6 = .ok (.getfield 54, 3) := by decide +kernel
theorem dX11_checkTray_9 : decode cX11_checkTray 9 = .ok (.arraylength, 1) := by decide +kernel
theorem dX11_checkTray_10 : decode cX11_checkTray 10 = .ok (.if_icmp .lt 14, 3) := by decide +kernel
theorem dX11_checkTray_13 : decode cX11_checkTray 13 = .ok (.new 178, 3) := by decide +kernel
theorem dX11_checkTray_16 : decode cX11_checkTray 16 = .ok (.dup, 1) := by decide +kernel
theorem dX11_checkTray_17 : decode cX11_checkTray 17 = .ok (.ldc_w 402, 3) := by decide +kernel
theorem dX11_checkTray_20 : decode cX11_checkTray 20 = .ok (.invokespecial 182, 3) := by decide +kernel
theorem dX11_checkTray_23 : decode cX11_checkTray 23 = .ok (.athrow, 1) := by decide +kernel
theorem dX11_checkTray_24 : decode cX11_checkTray 24 = .ok (.return_, 1) := by decide +kernel
theorem dX11_trayAt_0 : decode cX11_trayAt 0 = .ok (.aload_n 0, 1) := by decide +kernel
theorem dX11_trayAt_1 : decode cX11_trayAt 1 = .ok (.iload_n 1, 1) := by decide +kernel
theorem dX11_trayAt_2 : decode cX11_trayAt 2 = .ok (.invokevirtual 378, 3) := by decide +kernel
theorem dX11_trayAt_5 : decode cX11_trayAt 5 = .ok (.aload_n 0, 1) := by decide +kernel
theorem dX11_trayAt_6 : decode cX11_trayAt 6 = .ok (.getfield 54, 3) := by decide +kernel
theorem dX11_trayAt_9 : decode cX11_trayAt 9 = .ok (.iload_n 1, 1) := by decide +kernel
theorem dX11_trayAt_10 : decode cX11_trayAt 10 = .ok (.aaload, 1) := by decide +kernel
theorem dX11_trayAt_11 : decode cX11_trayAt 11 = .ok (.invokevirtual 404, 3) := by decide +kernel
theorem dX11_trayAt_14 : decode cX11_trayAt 14 = .ok (.ifCond .eq 14, 3) := by decide +kernel
theorem dX11_trayAt_17 : decode cX11_trayAt 17 = .ok (.new 186, 3) := by decide +kernel
theorem dX11_trayAt_20 : decode cX11_trayAt 20 = .ok (.dup, 1) := by decide +kernel
theorem dX11_trayAt_21 : decode cX11_trayAt 21 = .ok (.ldc_w 408, 3) := by decide +kernel
theorem dX11_trayAt_24 : decode cX11_trayAt 24 = .ok (.invokespecial 190, 3) := by decide +kernel
theorem dX11_trayAt_27 : decode cX11_trayAt 27 = .ok (.athrow, 1) := by decide +kernel
theorem dX11_trayAt_28 : decode cX11_trayAt 28 = .ok (.aload_n 0, 1) := by decide +kernel
theorem dX11_trayAt_29 : decode cX11_trayAt 29 = .ok (.getfield 54, 3) := by decide +kernel
theorem dX11_trayAt_32 : decode cX11_trayAt 32 = .ok (.iload_n 1, 1) := by decide +kernel
theorem dX11_trayAt_33 : decode cX11_trayAt 33 = .ok (.aaload, 1) := by decide +kernel
theorem dX11_trayAt_34 : decode cX11_trayAt 34 = .ok (.areturn, 1) := by decide +kernel
theorem dX11_image_0 : decode cX11_image 0 = .ok (.aload_n 0, 1) := by decide +kernel
theorem dX11_image_1 : decode cX11_image 1 = .ok (.iload_n 1, 1) := by decide +kernel
theorem dX11_image_2 : decode cX11_image 2 = .ok (.invokevirtual 410, 3) := by decide +kernel
theorem dX11_image_5 : decode cX11_image 5 = .ok (.aload_n 0, 1) := by decide +kernel
theorem dX11_image_6 : decode cX11_image 6 = .ok (.getfield 47, 3) := by decide +kernel
theorem dX11_image_9 : decode cX11_image 9 = .ok (.iload_n 1, 1) := by decide +kernel
theorem dX11_image_10 : decode cX11_image 10 = .ok (.aaload, 1) := by decide +kernel
theorem dX11_image_11 : decode cX11_image 11 = .ok (.aload_n 0, 1) := by decide +kernel
theorem dX11_image_12 : decode cX11_image 12 = .ok (.getfield 20, 3) := by decide +kernel
theorem dX11_image_15 : decode cX11_image 15 = .ok (.putfield 413, 3) := by decide +kernel
theorem dX11_image_18 : decode cX11_image 18 = .ok (.aload_n 0, 1) := by decide +kernel
theorem dX11_image_19 : decode cX11_image 19 = .ok (.getfield 47, 3) := by decide +kernel
theorem dX11_image_22 : decode cX11_image 22 = .ok (.iload_n 1, 1) := by decide +kernel
theorem dX11_image_23 : decode cX11_image 23 = .ok (.aaload, 1) := by decide +kernel
theorem dX11_image_24 : decode cX11_image 24 = .ok (.getfield 414, 3) := by decide +kernel
theorem dX11_image_27 : decode cX11_image 27 = .ok (.aload_n 0, 1) := by decide +kernel
theorem dX11_image_28 : decode cX11_image 28 = .ok (.getfield 34, 3) := by decide +kernel
theorem dX11_image_31 : decode cX11_image 31 = .ok (.invokevirtual 111, 3) := by decide +kernel
theorem dX11_image_34 : decode cX11_image 34 = .ok (.aload_n 0, 1) := by decide +kernel
theorem dX11_image_35 : decode cX11_image 35 = .ok (.getfield 47, 3) := by decide +kernel
theorem dX11_image_38 : decode cX11_image 38 = .ok (.iload_n 1, 1) := by decide +kernel
theorem dX11_image_39 : decode cX11_image 39 = .ok (.aaload, 1) := by decide +kernel
theorem dX11_image_40 : decode cX11_image 40 = .ok (.getfield 417, 3) := by decide +kernel
theorem dX11_image_43 : decode cX11_image 43 = .ok (.aload_n 0, 1) := by decide +kernel
theorem dX11_image_44 : decode cX11_image 44 = .ok (.getfield 41, 3) := by decide +kernel
theorem dX11_image_47 : decode cX11_image 47 = .ok (.invokevirtual 418, 3) := by decide +kernel
theorem dX11_image_50 : decode cX11_image 50 = .ok (.return_, 1) := by decide +kernel
theorem dX11_restore_0 : decode cX11_restore 0 = .ok (.aload_n 0, 1) := by decide +kernel
theorem dX11_restore_1 : decode cX11_restore 1 = .ok (.iload_n 1, 1) := by decide +kernel
theorem dX11_restore_2 : decode cX11_restore 2 = .ok (.invokevirtual 410, 3) := by decide +kernel
theorem dX11_restore_5 : decode cX11_restore 5 = .ok (.aload_n 0, 1) := by decide +kernel
theorem dX11_restore_6 : decode cX11_restore 6 = .ok (.getfield 47, 3) := by decide +kernel
theorem dX11_restore_9 : decode cX11_restore 9 = .ok (.iload_n 1, 1) := by decide +kernel
theorem dX11_restore_10 : decode cX11_restore 10 = .ok (.aaload, 1) := by decide +kernel
theorem dX11_restore_11 : decode cX11_restore 11 = .ok (.getfield 413, 3) := by decide +kernel
theorem dX11_restore_14 : decode cX11_restore 14 = .ok (.astore_n 2, 1) := by decide +kernel
theorem dX11_restore_15 : decode cX11_restore 15 = .ok (.aload_n 2, 1) := by decide +kernel
theorem dX11_restore_16 : decode cX11_restore 16 = .ok (.ifnonnull 14, 3) := by decide +kernel
theorem dX11_restore_19 : decode cX11_restore 19 = .ok (.new 186, 3) := by decide +kernel
theorem dX11_restore_22 : decode cX11_restore 22 = .ok (.dup, 1) := by decide +kernel
theorem dX11_restore_23 : decode cX11_restore 23 = .ok (.ldc_w 421, 3) := by decide +kernel
theorem dX11_restore_26 : decode cX11_restore 26 = .ok (.invokespecial 190, 3) := by decide +kernel
theorem dX11_restore_29 : decode cX11_restore 29 = .ok (.athrow, 1) := by decide +kernel
theorem dX11_restore_30 : decode cX11_restore 30 = .ok (.aload_n 0, 1) := by decide +kernel
theorem dX11_restore_31 : decode cX11_restore 31 = .ok (.aload_n 2, 1) := by decide +kernel
theorem dX11_restore_32 : decode cX11_restore 32 = .ok (.putfield 20, 3) := by decide +kernel
theorem dX11_restore_35 : decode cX11_restore 35 = .ok (.aload_n 0, 1) := by decide +kernel
theorem dX11_restore_36 : decode cX11_restore 36 = .ok (.getfield 34, 3) := by decide +kernel
theorem dX11_restore_39 : decode cX11_restore 39 = .ok (.aload_n 0, 1) := by decide +kernel
theorem dX11_restore_40 : decode cX11_restore 40 = .ok (.getfield 47, 3) := by decide +kernel
theorem dX11_restore_43 : decode cX11_restore 43 = .ok (.iload_n 1, 1) := by decide +kernel
theorem dX11_restore_44 : decode cX11_restore 44 = .ok (.aaload, 1) := by decide +kernel
theorem dX11_restore_45 : decode cX11_restore 45 = .ok (.getfield 414, 3) := by decide +kernel
theorem dX11_restore_48 : decode cX11_restore 48 = .ok (.invokevirtual 111, 3) := by decide +kernel
theorem dX11_restore_51 : decode cX11_restore 51 = .ok (.aload_n 0, 1) := by decide +kernel
theorem dX11_restore_52 : decode cX11_restore 52 = .ok (.getfield 41, 3) := by decide +kernel
theorem dX11_restore_55 : decode cX11_restore 55 = .ok (.aload_n 0, 1) := by decide +kernel
theorem dX11_restore_56 : decode cX11_restore 56 = .ok (.getfield 47, 3) := by decide +kernel
theorem dX11_restore_59 : decode cX11_restore 59 = .ok (.iload_n 1, 1) := by decide +kernel
theorem dX11_restore_60 : decode cX11_restore 60 = .ok (.aaload, 1) := by decide +kernel
theorem dX11_restore_61 : decode cX11_restore 61 = .ok (.getfield 417, 3) := by decide +kernel
theorem dX11_restore_64 : decode cX11_restore 64 = .ok (.invokevirtual 418, 3) := by decide +kernel
theorem dX11_restore_67 : decode cX11_restore 67 = .ok (.return_, 1) := by decide +kernel
theorem dX11_checkImage_0 : decode cX11_checkImage 0 = .ok (.iload_n 1, 1) := by decide +kernel
theorem dX11_checkImage_1 : decode cX11_checkImage 1 = .ok (.ifCond .lt 12, 3) := by decide +kernel
theorem dX11_checkImage_4 : decode cX11_checkImage 4 = .ok (.iload_n 1, 1) := by decide +kernel
theorem dX11_checkImage_5 : decode cX11_checkImage 5 = .ok (.aload_n 0, 1) := by decide +kernel
theorem dX11_checkImage_6 : decode cX11_checkImage 6 = .ok (.getfield 47, 3) := by decide +kernel
theorem dX11_checkImage_9 : decode cX11_checkImage 9 = .ok (.arraylength, 1) := by decide +kernel
theorem dX11_checkImage_10 : decode cX11_checkImage 10 = .ok (.if_icmp .lt 14, 3) := by decide +kernel
theorem dX11_checkImage_13 : decode cX11_checkImage 13 = .ok (.new 178, 3) := by decide +kernel
theorem dX11_checkImage_16 : decode cX11_checkImage 16 = .ok (.dup, 1) := by decide +kernel
theorem dX11_checkImage_17 : decode cX11_checkImage 17 = .ok (.ldc_w 423, 3) := by decide +kernel
theorem dX11_checkImage_20 : decode cX11_checkImage 20 = .ok (.invokespecial 182, 3) := by decide +kernel
theorem dX11_checkImage_23 : decode cX11_checkImage 23 = .ok (.athrow, 1) := by decide +kernel
theorem dX11_checkImage_24 : decode cX11_checkImage 24 = .ok (.return_, 1) := by decide +kernel
theorem dX11_count_0 : decode cX11_count 0 = .ok (.iload_n 1, 1) := by decide +kernel
theorem dX11_count_1 : decode cX11_count 1 = .ok (.tableswitch 173 0 10 #[59, 67, 75, 90, 105, 120, 128, 136, 144, 160, 168], 59) := by decide +kernel
theorem dX11_count_60 : decode cX11_count 60 = .ok (.aload_n 0, 1) := by decide +kernel
theorem dX11_count_61 : decode cX11_count 61 = .ok (.getfield 20, 3) := by decide +kernel
theorem dX11_count_64 : decode cX11_count 64 = .ok (.getfield 118, 3) := by decide +kernel
theorem dX11_count_67 : decode cX11_count 67 = .ok (.ireturn, 1) := by decide +kernel
theorem dX11_count_68 : decode cX11_count 68 = .ok (.aload_n 0, 1) := by decide +kernel
theorem dX11_count_69 : decode cX11_count 69 = .ok (.getfield 34, 3) := by decide +kernel
theorem dX11_count_72 : decode cX11_count 72 = .ok (.getfield 131, 3) := by decide +kernel
theorem dX11_count_75 : decode cX11_count 75 = .ok (.ireturn, 1) := by decide +kernel
theorem dX11_count_76 : decode cX11_count 76 = .ok (.aload_n 0, 1) := by decide +kernel
theorem dX11_count_77 : decode cX11_count 77 = .ok (.getfield 34, 3) := by decide +kernel
theorem dX11_count_80 : decode cX11_count 80 = .ok (.aload_n 0, 1) := by decide +kernel
theorem dX11_count_81 : decode cX11_count 81 = .ok (.getfield 34, 3) := by decide +kernel
theorem dX11_count_84 : decode cX11_count 84 = .ok (.getfield 149, 3) := by decide +kernel
theorem dX11_count_87 : decode cX11_count 87 = .ok (.invokevirtual 254, 3) := by decide +kernel
theorem dX11_count_90 : decode cX11_count 90 = .ok (.ireturn, 1) := by decide +kernel
theorem dX11_count_91 : decode cX11_count 91 = .ok (.aload_n 0, 1) := by decide +kernel
theorem dX11_count_92 : decode cX11_count 92 = .ok (.getfield 34, 3) := by decide +kernel
theorem dX11_count_95 : decode cX11_count 95 = .ok (.aload_n 0, 1) := by decide +kernel
theorem dX11_count_96 : decode cX11_count 96 = .ok (.getfield 34, 3) := by decide +kernel
theorem dX11_count_99 : decode cX11_count 99 = .ok (.getfield 124, 3) := by decide +kernel
theorem dX11_count_102 : decode cX11_count 102 = .ok (.invokevirtual 254, 3) := by decide +kernel
theorem dX11_count_105 : decode cX11_count 105 = .ok (.ireturn, 1) := by decide +kernel
theorem dX11_count_106 : decode cX11_count 106 = .ok (.aload_n 0, 1) := by decide +kernel
theorem dX11_count_107 : decode cX11_count 107 = .ok (.getfield 34, 3) := by decide +kernel
theorem dX11_count_110 : decode cX11_count 110 = .ok (.aload_n 0, 1) := by decide +kernel
theorem dX11_count_111 : decode cX11_count 111 = .ok (.getfield 34, 3) := by decide +kernel
theorem dX11_count_114 : decode cX11_count 114 = .ok (.getfield 146, 3) := by decide +kernel
theorem dX11_count_117 : decode cX11_count 117 = .ok (.invokevirtual 254, 3) := by decide +kernel
theorem dX11_count_120 : decode cX11_count 120 = .ok (.ireturn, 1) := by decide +kernel
theorem dX11_count_121 : decode cX11_count 121 = .ok (.aload_n 0, 1) := by decide +kernel
theorem dX11_count_122 : decode cX11_count 122 = .ok (.getfield 34, 3) := by decide +kernel
theorem dX11_count_125 : decode cX11_count 125 = .ok (.getfield 288, 3) := by decide +kernel
theorem dX11_count_128 : decode cX11_count 128 = .ok (.ireturn, 1) := by decide +kernel
theorem dX11_count_129 : decode cX11_count 129 = .ok (.aload_n 0, 1) := by decide +kernel
theorem dX11_count_130 : decode cX11_count 130 = .ok (.getfield 20, 3) := by decide +kernel
theorem dX11_count_133 : decode cX11_count 133 = .ok (.getfield 217, 3) := by decide +kernel
theorem dX11_count_136 : decode cX11_count 136 = .ok (.ireturn, 1) := by decide +kernel
theorem dX11_count_137 : decode cX11_count 137 = .ok (.aload_n 0, 1) := by decide +kernel
theorem dX11_count_138 : decode cX11_count 138 = .ok (.getfield 34, 3) := by decide +kernel
theorem dX11_count_141 : decode cX11_count 141 = .ok (.getfield 258, 3) := by decide +kernel
theorem dX11_count_144 : decode cX11_count 144 = .ok (.ireturn, 1) := by decide +kernel
theorem dX11_count_145 : decode cX11_count 145 = .ok (.aload_n 0, 1) := by decide +kernel
theorem dX11_count_146 : decode cX11_count 146 = .ok (.getfield 20, 3) := by decide +kernel
theorem dX11_count_149 : decode cX11_count 149 = .ok (.getfield 425, 3) := by decide +kernel
theorem dX11_count_152 : decode cX11_count 152 = .ok (.ifCond .eq 7, 3) := by decide +kernel
theorem dX11_count_155 : decode cX11_count 155 = .ok (.iconst 1, 1) := by decide +kernel
theorem dX11_count_156 : decode cX11_count 156 = .ok (.goto 4, 3) := by decide +kernel
theorem dX11_count_159 : decode cX11_count 159 = .ok (.iconst 0, 1) := by decide +kernel
theorem dX11_count_160 : decode cX11_count 160 = .ok (.ireturn, 1) := by decide +kernel
theorem dX11_count_161 : decode cX11_count 161 = .ok (.aload_n 0, 1) := by decide +kernel
theorem dX11_count_162 : decode cX11_count 162 = .ok (.getfield 41, 3) := by decide +kernel
theorem dX11_count_165 : decode cX11_count 165 = .ok (.getfield 115, 3) := by decide +kernel
theorem dX11_count_168 : decode cX11_count 168 = .ok (.ireturn, 1) := by decide +kernel
theorem dX11_count_169 : decode cX11_count 169 = .ok (.aload_n 0, 1) := by decide +kernel
theorem dX11_count_170 : decode cX11_count 170 = .ok (.getfield 80, 3) := by decide +kernel
theorem dX11_count_173 : decode cX11_count 173 = .ok (.ireturn, 1) := by decide +kernel
theorem dX11_count_174 : decode cX11_count 174 = .ok (.iconst (-1), 1) := by decide +kernel
theorem dX11_count_175 : decode cX11_count 175 = .ok (.ireturn, 1) := by decide +kernel
