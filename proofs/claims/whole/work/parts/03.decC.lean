theorem dX12_within_0 : decode cX12_within 0 = .ok (.lload_n 0, 1) := by decide +kernel
theorem dX12_within_1 : decode cX12_within 1 = .ok (.lload_n 2, 1) := by decide +kernel
theorem dX12_within_2 : decode cX12_within 2 = .ok (.lcmp, 1) := by decide +kernel
theorem dX12_within_3 : decode cX12_within 3 = .ok (.ifCond .lt 14, 3) := by decide +kernel
theorem dX12_within_6 : decode cX12_within 6 = .ok (.lload_n 0, 1) := by decide +kernel
theorem dX12_within_7 : decode cX12_within 7 = .ok (.lload 4, 2) := by decide +kernel
theorem dX12_within_9 : decode cX12_within 9 = .ok (.lcmp, 1) := by decide +kernel
theorem dX12_within_10 : decode cX12_within 10 = .ok (.ifCond .gt 7, 3) := by decide +kernel
theorem dX12_within_13 : decode cX12_within 13 = .ok (.iconst 1, 1) := by decide +kernel
theorem dX12_within_14 : decode cX12_within 14 = .ok (.goto 4, 3) := by decide +kernel
theorem dX12_within_17 : decode cX12_within 17 = .ok (.iconst 0, 1) := by decide +kernel
theorem dX12_within_18 : decode cX12_within 18 = .ok (.ireturn, 1) := by decide +kernel
theorem dX12_init_0 : decode cX12_init 0 = .ok (.aload_n 0, 1) := by decide +kernel
theorem dX12_init_1 : decode cX12_init 1 = .ok (.invokespecial 7, 3) := by decide +kernel
theorem dX12_init_4 : decode cX12_init 4 = .ok (.aload_n 0, 1) := by decide +kernel
theorem dX12_init_5 : decode cX12_init 5 = .ok (.sipush 3132, 3) := by decide +kernel
theorem dX12_init_8 : decode cX12_init 8 = .ok (.newarray .int, 2) := by decide +kernel
theorem dX12_init_10 : decode cX12_init 10 = .ok (.putfield 13, 3) := by decide +kernel
theorem dX12_init_13 : decode cX12_init 13 = .ok (.aload_n 0, 1) := by decide +kernel
theorem dX12_init_14 : decode cX12_init 14 = .ok (.iconst 2, 1) := by decide +kernel
theorem dX12_init_15 : decode cX12_init 15 = .ok (.newarray .boolean, 2) := by decide +kernel
theorem dX12_init_17 : decode cX12_init 17 = .ok (.putfield 17, 3) := by decide +kernel
theorem dX12_init_20 : decode cX12_init 20 = .ok (.aload_n 0, 1) := by decide +kernel
theorem dX12_init_21 : decode cX12_init 21 = .ok (.sipush 900, 3) := by decide +kernel
theorem dX12_init_24 : decode cX12_init 24 = .ok (.newarray .int, 2) := by decide +kernel
theorem dX12_init_26 : decode cX12_init 26 = .ok (.putfield 21, 3) := by decide +kernel
theorem dX12_init_29 : decode cX12_init 29 = .ok (.aload_n 0, 1) := by decide +kernel
theorem dX12_init_30 : decode cX12_init 30 = .ok (.sipush 1044, 3) := by decide +kernel
theorem dX12_init_33 : decode cX12_init 33 = .ok (.newarray .int, 2) := by decide +kernel
theorem dX12_init_35 : decode cX12_init 35 = .ok (.putfield 24, 3) := by decide +kernel
theorem dX12_init_38 : decode cX12_init 38 = .ok (.aload_n 0, 1) := by decide +kernel
theorem dX12_init_39 : decode cX12_init 39 = .ok (.iconst (-1), 1) := by decide +kernel
theorem dX12_init_40 : decode cX12_init 40 = .ok (.putfield 27, 3) := by decide +kernel
theorem dX12_init_43 : decode cX12_init 43 = .ok (.aload_n 0, 1) := by decide +kernel
theorem dX12_init_44 : decode cX12_init 44 = .ok (.sipush 900, 3) := by decide +kernel
theorem dX12_init_47 : decode cX12_init 47 = .ok (.newarray .int, 2) := by decide +kernel
theorem dX12_init_49 : decode cX12_init 49 = .ok (.putfield 30, 3) := by decide +kernel
theorem dX12_init_52 : decode cX12_init 52 = .ok (.aload_n 0, 1) := by decide +kernel
theorem dX12_init_53 : decode cX12_init 53 = .ok (.bipush 6, 2) := by decide +kernel
theorem dX12_init_55 : decode cX12_init 55 = .ok (.newarray .int, 2) := by decide +kernel
theorem dX12_init_57 : decode cX12_init 57 = .ok (.putfield 33, 3) := by decide +kernel
theorem dX12_init_60 : decode cX12_init 60 = .ok (.aload_n 0, 1) := by decide +kernel
theorem dX12_init_61 : decode cX12_init 61 = .ok (.bipush 9, 2) := by decide +kernel
theorem dX12_init_63 : decode cX12_init 63 = .ok (.newarray .int, 2) := by decide +kernel
theorem dX12_init_65 : decode cX12_init 65 = .ok (.putfield 36, 3) := by decide +kernel
theorem dX12_init_68 : decode cX12_init 68 = .ok (.aload_n 0, 1) := by decide +kernel
theorem dX12_init_69 : decode cX12_init 69 = .ok (.ldc 39, 2) := by decide +kernel
theorem dX12_init_71 : decode cX12_init 71 = .ok (.newarray .boolean, 2) := by decide +kernel
theorem dX12_init_73 : decode cX12_init 73 = .ok (.putfield 40, 3) := by decide +kernel
theorem dX12_init_76 : decode cX12_init 76 = .ok (.aload_n 0, 1) := by decide +kernel
theorem dX12_init_77 : decode cX12_init 77 = .ok (.ldc 43, 2) := by decide +kernel
theorem dX12_init_79 : decode cX12_init 79 = .ok (.newarray .int, 2) := by decide +kernel
theorem dX12_init_81 : decode cX12_init 81 = .ok (.putfield 44, 3) := by decide +kernel
theorem dX12_init_84 : decode cX12_init 84 = .ok (.aload_n 0, 1) := by decide +kernel
theorem dX12_init_85 : decode cX12_init 85 = .ok (.ldc 39, 2) := by decide +kernel
theorem dX12_init_87 : decode cX12_init 87 = .ok (.newarray .int, 2) := by decide +kernel
theorem dX12_init_89 : decode cX12_init 89 = .ok (.putfield 47, 3) := by decide +kernel
theorem dX12_init_92 : decode cX12_init 92 = .ok (.aload_n 0, 1) := by decide +kernel
theorem dX12_init_93 : decode cX12_init 93 = .ok (.ldc 39, 2) := by decide +kernel
theorem dX12_init_95 : decode cX12_init 95 = .ok (.newarray .long, 2) := by decide +kernel
theorem dX12_init_97 : decode cX12_init 97 = .ok (.putfield 50, 3) := by decide +kernel
theorem dX12_init_100 : decode cX12_init 100 = .ok (.aload_n 0, 1) := by decide +kernel
theorem dX12_init_101 : decode cX12_init 101 = .ok (.ldc 39, 2) := by decide +kernel
theorem dX12_init_103 : decode cX12_init 103 = .ok (.newarray .long, 2) := by decide +kernel
theorem dX12_init_105 : decode cX12_init 105 = .ok (.putfield 54, 3) := by decide +kernel
theorem dX12_init_108 : decode cX12_init 108 = .ok (.aload_n 0, 1) := by decide +kernel
theorem dX12_init_109 : decode cX12_init 109 = .ok (.iconst 4, 1) := by decide +kernel
theorem dX12_init_110 : decode cX12_init 110 = .ok (.newarray .int, 2) := by decide +kernel
theorem dX12_init_112 : decode cX12_init 112 = .ok (.putfield 57, 3) := by decide +kernel
theorem dX12_init_115 : decode cX12_init 115 = .ok (.aload_n 0, 1) := by decide +kernel
theorem dX12_init_116 : decode cX12_init 116 = .ok (.ldc 39, 2) := by decide +kernel
theorem dX12_init_118 : decode cX12_init 118 = .ok (.newarray .int, 2) := by decide +kernel
theorem dX12_init_120 : decode cX12_init 120 = .ok (.putfield 60, 3) := by decide +kernel
theorem dX12_init_123 : decode cX12_init 123 = .ok (.aload_n 0, 1) := by decide +kernel
theorem dX12_init_124 : decode cX12_init 124 = .ok (.iconst 4, 1) := by decide +kernel
theorem dX12_init_125 : decode cX12_init 125 = .ok (.newarray .int, 2) := by decide +kernel
theorem dX12_init_127 : decode cX12_init 127 = .ok (.dup, 1) := by decide +kernel
theorem dX12_init_128 : decode cX12_init 128 = .ok (.iconst 0, 1) := by decide +kernel
theorem dX12_init_129 : decode cX12_init 129 = .ok (.iconst (-1), 1) := by decide +kernel
theorem dX12_init_130 : decode cX12_init 130 = .ok (.iastore, 1) := by decide +kernel
theorem dX12_init_131 : decode cX12_init 131 = .ok (.dup, 1) := by decide +kernel
theorem dX12_init_132 : decode cX12_init 132 = .ok (.iconst 1, 1) := by decide +kernel
theorem dX12_init_133 : decode cX12_init 133 = .ok (.iconst (-1), 1) := by decide +kernel
theorem dX12_init_134 : decode cX12_init 134 = .ok (.iastore, 1) := by decide +kernel
theorem dX12_init_135 : decode cX12_init 135 = .ok (.dup, 1) := by decide +kernel
theorem dX12_init_136 : decode cX12_init 136 = .ok (.iconst 2, 1) := by decide +kernel
theorem dX12_init_137 : decode cX12_init 137 = .ok (.iconst (-1), 1) := by decide +kernel
theorem dX12_init_138 : decode cX12_init 138 = .ok (.iastore, 1) := by decide +kernel
theorem dX12_init_139 : decode cX12_init 139 = .ok (.dup, 1) := by decide +kernel
theorem dX12_init_140 : decode cX12_init 140 = .ok (.iconst 3, 1) := by decide +kernel
theorem dX12_init_141 : decode cX12_init 141 = .ok (.iconst (-1), 1) := by decide +kernel
theorem dX12_init_142 : decode cX12_init 142 = .ok (.iastore, 1) := by decide +kernel
theorem dX12_init_143 : decode cX12_init 143 = .ok (.putfield 63, 3) := by decide +kernel
theorem dX12_init_146 : decode cX12_init 146 = .ok (.aload_n 0, 1) := by decide +kernel
theorem dX12_init_147 : decode cX12_init 147 = .ok (.iconst 4, 1) := by decide +kernel
theorem dX12_init_148 : decode cX12_init 148 = .ok (.newarray .int, 2) := by decide +kernel
theorem dX12_init_150 : decode cX12_init 150 = .ok (.putfield 66, 3) := by decide +kernel
theorem dX12_init_153 : decode cX12_init 153 = .ok (.aload_n 0, 1) := by decide +kernel
theorem dX12_init_154 : decode cX12_init 154 = .ok (.sipush 160, 3) := by decide +kernel
theorem dX12_init_157 : decode cX12_init 157 = .ok (.newarray .long, 2) := by decide +kernel
theorem dX12_init_159 : decode cX12_init 159 = .ok (.putfield 69, 3) := by decide +kernel
theorem dX12_init_162 : decode cX12_init 162 = .ok (.aload_n 0, 1) := by decide +kernel
theorem dX12_init_163 : decode cX12_init 163 = .ok (.getfield 13, 3) := by decide +kernel
theorem dX12_init_166 : decode cX12_init 166 = .ok (.invokestatic 72, 3) := by decide +kernel
theorem dX12_init_169 : decode cX12_init 169 = .ok (.return_, 1) := by decide +kernel
theorem dX12_plain_0 : decode cX12_plain 0 = .ok (.iconst 0, 1) := by decide +kernel
theorem dX12_plain_1 : decode cX12_plain 1 = .ok (.istore_n 1, 1) := by decide +kernel
theorem dX12_plain_2 : decode cX12_plain 2 = .ok (.iload_n 1, 1) := by decide +kernel
theorem dX12_plain_3 : decode cX12_plain 3 = .ok (.sipush 1044, 3) := by decide +kernel
theorem dX12_plain_6 : decode cX12_plain 6 = .ok (.if_icmp .ge 13, 3) := by decide +kernel
theorem dX12_plain_9 : decode cX12_plain 9 = .ok (.aload_n 0, 1) := by decide +kernel
theorem dX12_plain_10 : decode cX12_plain 10 = .ok (.iload_n 1, 1) := by decide +kernel
theorem dX12_plain_11 : decode cX12_plain 11 = .ok (.iconst 0, 1) := by decide +kernel
theorem dX12_plain_12 : decode cX12_plain 12 = .ok (.iastore, 1) := by decide +kernel
theorem dX12_plain_13 : decode cX12_plain 13 = .ok (.iinc 1 1, 3) := by decide +kernel
theorem dX12_plain_16 : decode cX12_plain 16 = .ok (.goto (-14), 3) := by decide +kernel
theorem dX12_plain_19 : decode cX12_plain 19 = .ok (.return_, 1) := by decide +kernel
theorem dX12_feed_0 : decode cX12_feed 0 = .ok (.aload_n 0, 1) := by decide +kernel
theorem dX12_feed_1 : decode cX12_feed 1 = .ok (.iconst 0, 1) := by decide +kernel
theorem dX12_feed_2 : decode cX12_feed 2 = .ok (.putfield 1, 3) := by decide +kernel
theorem dX12_feed_5 : decode cX12_feed 5 = .ok (.aload_n 0, 1) := by decide +kernel
theorem dX12_feed_6 : decode cX12_feed 6 = .ok (.getfield 76, 3) := by decide +kernel
theorem dX12_feed_9 : decode cX12_feed 9 = .ok (.bipush 20, 2) := by decide +kernel
theorem dX12_feed_11 : decode cX12_feed 11 = .ok (.iadd, 1) := by decide +kernel
theorem dX12_feed_12 : decode cX12_feed 12 = .ok (.sipush 900, 3) := by decide +kernel
theorem dX12_feed_15 : decode cX12_feed 15 = .ok (.if_icmp .le 6, 3) := by decide +kernel
theorem dX12_feed_18 : decode cX12_feed 18 = .ok (.bipush (-5), 2) := by decide +kernel
theorem dX12_feed_20 : decode cX12_feed 20 = .ok (.ireturn, 1) := by decide +kernel
theorem dX12_feed_21 : decode cX12_feed 21 = .ok (.iconst 0, 1) := by decide +kernel
theorem dX12_feed_22 : decode cX12_feed 22 = .ok (.istore 6, 2) := by decide +kernel
theorem dX12_feed_24 : decode cX12_feed 24 = .ok (.iload 6, 2) := by decide +kernel
theorem dX12_feed_26 : decode cX12_feed 26 = .ok (.bipush 20, 2) := by decide +kernel
theorem dX12_feed_28 : decode cX12_feed 28 = .ok (.if_icmp .ge 93, 3) := by decide +kernel
theorem dX12_feed_31 : decode cX12_feed 31 = .ok (.iload 6, 2) := by decide +kernel
theorem dX12_feed_33 : decode cX12_feed 33 = .ok (.iconst 4, 1) := by decide +kernel
theorem dX12_feed_34 : decode cX12_feed 34 = .ok (.if_icmp .ge 7, 3) := by decide +kernel
theorem dX12_feed_37 : decode cX12_feed 37 = .ok (.iload_n 1, 1) := by decide +kernel
theorem dX12_feed_38 : decode cX12_feed 38 = .ok (.goto 39, 3) := by decide +kernel
theorem dX12_feed_41 : decode cX12_feed 41 = .ok (.iload 6, 2) := by decide +kernel
theorem dX12_feed_43 : decode cX12_feed 43 = .ok (.bipush 8, 2) := by decide +kernel
theorem dX12_feed_45 : decode cX12_feed 45 = .ok (.if_icmp .ge 7, 3) := by decide +kernel
theorem dX12_feed_48 : decode cX12_feed 48 = .ok (.iload_n 2, 1) := by decide +kernel
theorem dX12_feed_49 : decode cX12_feed 49 = .ok (.goto 28, 3) := by decide +kernel
theorem dX12_feed_52 : decode cX12_feed 52 = .ok (.iload 6, 2) := by decide +kernel
theorem dX12_feed_54 : decode cX12_feed 54 = .ok (.bipush 12, 2) := by decide +kernel
theorem dX12_feed_56 : decode cX12_feed 56 = .ok (.if_icmp .ge 7, 3) := by decide +kernel
theorem dX12_feed_59 : decode cX12_feed 59 = .ok (.iload_n 3, 1) := by decide +kernel
theorem dX12_feed_60 : decode cX12_feed 60 = .ok (.goto 17, 3) := by decide +kernel
theorem dX12_feed_63 : decode cX12_feed 63 = .ok (.iload 6, 2) := by decide +kernel
theorem dX12_feed_65 : decode cX12_feed 65 = .ok (.bipush 16, 2) := by decide +kernel
theorem dX12_feed_67 : decode cX12_feed 67 = .ok (.if_icmp .ge 8, 3) := by decide +kernel
theorem dX12_feed_70 : decode cX12_feed 70 = .ok (.iload 4, 2) := by decide +kernel
theorem dX12_feed_72 : decode cX12_feed 72 = .ok (.goto 5, 3) := by decide +kernel
theorem dX12_feed_75 : decode cX12_feed 75 = .ok (.iload 5, 2) := by decide +kernel
theorem dX12_feed_77 : decode cX12_feed 77 = .ok (.istore 7, 2) := by decide +kernel
theorem dX12_feed_79 : decode cX12_feed 79 = .ok (.aload_n 0, 1) := by decide +kernel
theorem dX12_feed_80 : decode cX12_feed 80 = .ok (.getfield 21, 3) := by decide +kernel
theorem dX12_feed_83 : decode cX12_feed 83 = .ok (.aload_n 0, 1) := by decide +kernel
theorem dX12_feed_84 : decode cX12_feed 84 = .ok (.getfield 76, 3) := by decide +kernel
theorem dX12_feed_87 : decode cX12_feed 87 = .ok (.iload 7, 2) := by decide +kernel
theorem dX12_feed_89 : decode cX12_feed 89 = .ok (.bipush 24, 2) := by decide +kernel
theorem dX12_feed_91 : decode cX12_feed 91 = .ok (.bipush 8, 2) := by decide +kernel
theorem dX12_feed_93 : decode cX12_feed 93 = .ok (.iload 6, 2) := by decide +kernel
theorem dX12_feed_95 : decode cX12_feed 95 = .ok (.iconst 4, 1) := by decide +kernel
theorem dX12_feed_96 : decode cX12_feed 96 = .ok (.irem, 1) := by decide +kernel
theorem dX12_feed_97 : decode cX12_feed 97 = .ok (.imul, 1) := by decide +kernel
theorem dX12_feed_98 : decode cX12_feed 98 = .ok (.isub, 1) := by decide +kernel
theorem dX12_feed_99 : decode cX12_feed 99 = .ok (.ishr, 1) := by decide +kernel
theorem dX12_feed_100 : decode cX12_feed 100 = .ok (.sipush 255, 3) := by decide +kernel
theorem dX12_feed_103 : decode cX12_feed 103 = .ok (.iand, 1) := by decide +kernel
theorem dX12_feed_104 : decode cX12_feed 104 = .ok (.iastore, 1) := by decide +kernel
theorem dX12_feed_105 : decode cX12_feed 105 = .ok (.aload_n 0, 1) := by decide +kernel
theorem dX12_feed_106 : decode cX12_feed 106 = .ok (.dup, 1) := by decide +kernel
theorem dX12_feed_107 : decode cX12_feed 107 = .ok (.getfield 76, 3) := by decide +kernel
theorem dX12_feed_110 : decode cX12_feed 110 = .ok (.iconst 1, 1) := by decide +kernel
theorem dX12_feed_111 : decode cX12_feed 111 = .ok (.iadd, 1) := by decide +kernel
theorem dX12_feed_112 : decode cX12_feed 112 = .ok (.putfield 76, 3) := by decide +kernel
theorem dX12_feed_115 : decode cX12_feed 115 = .ok (.iinc 6 1, 3) := by decide +kernel
theorem dX12_feed_118 : decode cX12_feed 118 = .ok (.goto (-94), 3) := by decide +kernel
theorem dX12_feed_121 : decode cX12_feed 121 = .ok (.aload_n 0, 1) := by decide +kernel
theorem dX12_feed_122 : decode cX12_feed 122 = .ok (.getfield 76, 3) := by decide +kernel
theorem dX12_feed_125 : decode cX12_feed 125 = .ok (.ireturn, 1) := by decide +kernel
theorem dX12_see_0 : decode cX12_see 0 = .ok (.iload_n 1, 1) := by decide +kernel
theorem dX12_see_1 : decode cX12_see 1 = .ok (.aload_n 0, 1) := by decide +kernel
theorem dX12_see_2 : decode cX12_see 2 = .ok (.getfield 79, 3) := by decide +kernel
theorem dX12_see_5 : decode cX12_see 5 = .ok (.if_icmp .ge 12, 3) := by decide +kernel
theorem dX12_see_8 : decode cX12_see 8 = .ok (.aload_n 0, 1) := by decide +kernel
theorem dX12_see_9 : decode cX12_see 9 = .ok (.getfield 21, 3) := by decide +kernel
theorem dX12_see_12 : decode cX12_see 12 = .ok (.iload_n 1, 1) := by decide +kernel
theorem dX12_see_13 : decode cX12_see 13 = .ok (.iaload, 1) := by decide +kernel
theorem dX12_see_14 : decode cX12_see 14 = .ok (.goto 4, 3) := by decide +kernel
theorem dX12_see_17 : decode cX12_see 17 = .ok (.iconst (-1), 1) := by decide +kernel
theorem dX12_see_18 : decode cX12_see 18 = .ok (.ireturn, 1) := by decide +kernel
theorem dX12_isSmall_0 : decode cX12_isSmall 0 = .ok (.iload_n 0, 1) := by decide +kernel
theorem dX12_isSmall_1 : decode cX12_isSmall 1 = .ok (.bipush 97, 2) := by decide +kernel
theorem dX12_isSmall_3 : decode cX12_isSmall 3 = .ok (.if_icmp .lt 13, 3) := by decide +kernel
theorem dX12_isSmall_6 : decode cX12_isSmall 6 = .ok (.iload_n 0, 1) := by decide +kernel
theorem dX12_isSmall_7 : decode cX12_isSmall 7 = .ok (.bipush 122, 2) := by decide +kernel
theorem dX12_isSmall_9 : decode cX12_isSmall 9 = .ok (.if_icmp .gt 7, 3) := by decide +kernel
theorem dX12_isSmall_12 : decode cX12_isSmall 12 = .ok (.iconst 1, 1) := by decide +kernel
theorem dX12_isSmall_13 : decode cX12_isSmall 13 = .ok (.goto 4, 3) := by decide +kernel
theorem dX12_isSmall_16 : decode cX12_isSmall 16 = .ok (.iconst 0, 1) := by decide +kernel
theorem dX12_isSmall_17 : decode cX12_isSmall 17 = .ok (.ireturn, 1) := by decide +kernel
theorem dX12_isDigit_0 : decode cX12_isDigit 0 = .ok (.iload_n 0, 1) := by decide +kernel
theorem dX12_isDigit_1 : decode cX12_isDigit 1 = .ok (.bipush 48, 2) := by decide +kernel
theorem dX12_isDigit_3 : decode cX12_isDigit 3 = .ok (.if_icmp .lt 13, 3) := by decide +kernel
theorem dX12_isDigit_6 : decode cX12_isDigit 6 = .ok (.iload_n 0, 1) := by decide +kernel
theorem dX12_isDigit_7 : decode cX12_isDigit 7 = .ok (.bipush 57, 2) := by decide +kernel
theorem dX12_isDigit_9 : decode cX12_isDigit 9 = .ok (.if_icmp .gt 7, 3) := by decide +kernel
theorem dX12_isDigit_12 : decode cX12_isDigit 12 = .ok (.iconst 1, 1) := by decide +kernel
theorem dX12_isDigit_13 : decode cX12_isDigit 13 = .ok (.goto 4, 3) := by decide +kernel
theorem dX12_isDigit_16 : decode cX12_isDigit 16 = .ok (.iconst 0, 1) := by decide +kernel
theorem dX12_isDigit_17 : decode cX12_isDigit 17 = .ok (.ireturn, 1) := by decide +kernel
theorem dX12_keyAt_0 : decode cX12_keyAt 0 = .ok (.iconst 0, 1) := by decide +kernel
theorem dX12_keyAt_1 : decode cX12_keyAt 1 = .ok (.istore_n 1, 1) := by decide +kernel
theorem dX12_keyAt_2 : decode cX12_keyAt 2 = .ok (.iconst 1, 1) := by decide +kernel
theorem dX12_keyAt_3 : decode cX12_keyAt 3 = .ok (.istore_n 2, 1) := by decide +kernel
theorem dX12_keyAt_4 : decode cX12_keyAt 4 = .ok (.iload_n 2, 1) := by decide +kernel
theorem dX12_keyAt_5 : decode cX12_keyAt 5 = .ok (.ldc 82, 2) := by decide +kernel
theorem dX12_keyAt_7 : decode cX12_keyAt 7 = .ok (.invokevirtual 84, 3) := by decide +kernel
theorem dX12_keyAt_10 : decode cX12_keyAt 10 = .ok (.if_icmp .ge 113, 3) := by decide +kernel
theorem dX12_keyAt_13 : decode cX12_keyAt 13 = .ok (.iconst 0, 1) := by decide +kernel
theorem dX12_keyAt_14 : decode cX12_keyAt 14 = .ok (.istore_n 3, 1) := by decide +kernel
theorem dX12_keyAt_15 : decode cX12_keyAt 15 = .ok (.ldc 82, 2) := by decide +kernel
theorem dX12_keyAt_17 : decode cX12_keyAt 17 = .ok (.iload_n 2, 1) := by decide +kernel
theorem dX12_keyAt_18 : decode cX12_keyAt 18 = .ok (.iload_n 3, 1) := by decide +kernel
theorem dX12_keyAt_19 : decode cX12_keyAt 19 = .ok (.iadd, 1) := by decide +kernel
theorem dX12_keyAt_20 : decode cX12_keyAt 20 = .ok (.invokevirtual 90, 3) := by decide +kernel
theorem dX12_keyAt_23 : decode cX12_keyAt 23 = .ok (.bipush 32, 2) := by decide +kernel
theorem dX12_keyAt_25 : decode cX12_keyAt 25 = .ok (.if_icmp .eq 44, 3) := by decide +kernel
theorem dX12_keyAt_28 : decode cX12_keyAt 28 = .ok (.aload_n 0, 1) := by decide +kernel
theorem dX12_keyAt_29 : decode cX12_keyAt 29 = .ok (.getfield 94, 3) := by decide +kernel
theorem dX12_keyAt_32 : decode cX12_keyAt 32 = .ok (.iload_n 3, 1) := by decide +kernel
theorem dX12_keyAt_33 : decode cX12_keyAt 33 = .ok (.iadd, 1) := by decide +kernel
theorem dX12_keyAt_34 : decode cX12_keyAt 34 = .ok (.aload_n 0, 1) := by decide +kernel
theorem dX12_keyAt_35 : decode cX12_keyAt 35 = .ok (.getfield 97, 3) := by decide +kernel
theorem dX12_keyAt_38 : decode cX12_keyAt 38 = .ok (.if_icmp .ge 31, 3) := by decide +kernel
theorem dX12_keyAt_41 : decode cX12_keyAt 41 = .ok (.aload_n 0, 1) := by decide +kernel
theorem dX12_keyAt_42 : decode cX12_keyAt 42 = .ok (.getfield 21, 3) := by decide +kernel
theorem dX12_keyAt_45 : decode cX12_keyAt 45 = .ok (.aload_n 0, 1) := by decide +kernel
theorem dX12_keyAt_46 : decode cX12_keyAt 46 = .ok (.getfield 94, 3) := by decide +kernel
theorem dX12_keyAt_49 : decode cX12_keyAt 49 = .ok (.iload_n 3, 1) := by decide +kernel
theorem dX12_keyAt_50 : decode cX12_keyAt 50 = .ok (.iadd, 1) := by decide +kernel
theorem dX12_keyAt_51 : decode cX12_keyAt 51 = .ok (.iaload, 1) := by decide +kernel
theorem dX12_keyAt_52 : decode cX12_keyAt 52 = .ok (.ldc 82, 2) := by decide +kernel
theorem dX12_keyAt_54 : decode cX12_keyAt 54 = .ok (.iload_n 2, 1) := by decide +kernel
theorem dX12_keyAt_55 : decode cX12_keyAt 55 = .ok (.iload_n 3, 1) := by decide +kernel
theorem dX12_keyAt_56 : decode cX12_keyAt 56 = .ok (.iadd, 1) := by decide +kernel
theorem dX12_keyAt_57 : decode cX12_keyAt 57 = .ok (.invokevirtual 90, 3) := by decide +kernel
theorem dX12_keyAt_60 : decode cX12_keyAt 60 = .ok (.if_icmp .ne 9, 3) := by decide +kernel
theorem dX12_keyAt_63 : decode cX12_keyAt 63 = .ok (.iinc 3 1, 3) := by decide +kernel
theorem dX12_keyAt_66 : decode cX12_keyAt 66 = .ok (.goto (-51), 3) := by decide +kernel
theorem dX12_keyAt_69 : decode cX12_keyAt 69 = .ok (.ldc 82, 2) := by decide +kernel
theorem dX12_keyAt_71 : decode cX12_keyAt 71 = .ok (.iload_n 2, 1) := by decide +kernel
theorem dX12_keyAt_72 : decode cX12_keyAt 72 = .ok (.iload_n 3, 1) := by decide +kernel
theorem dX12_keyAt_73 : decode cX12_keyAt 73 = .ok (.iadd, 1) := by decide +kernel
theorem dX12_keyAt_74 : decode cX12_keyAt 74 = .ok (.invokevirtual 90, 3) := by decide +kernel
theorem dX12_keyAt_77 : decode cX12_keyAt 77 = .ok (.bipush 32, 2) := by decide +kernel
theorem dX12_keyAt_79 : decode cX12_keyAt 79 = .ok (.if_icmp .ne 18, 3) := by decide +kernel
theorem dX12_keyAt_82 : decode cX12_keyAt 82 = .ok (.aload_n 0, 1) := by decide +kernel
theorem dX12_keyAt_83 : decode cX12_keyAt 83 = .ok (.getfield 94, 3) := by decide +kernel
theorem dX12_keyAt_86 : decode cX12_keyAt 86 = .ok (.iload_n 3, 1) := by decide +kernel
theorem dX12_keyAt_87 : decode cX12_keyAt 87 = .ok (.iadd, 1) := by decide +kernel
theorem dX12_keyAt_88 : decode cX12_keyAt 88 = .ok (.aload_n 0, 1) := by decide +kernel
theorem dX12_keyAt_89 : decode cX12_keyAt 89 = .ok (.getfield 97, 3) := by decide +kernel
theorem dX12_keyAt_92 : decode cX12_keyAt 92 = .ok (.if_icmp .ne 5, 3) := by decide +kernel
theorem dX12_keyAt_95 : decode cX12_keyAt 95 = .ok (.iload_n 1, 1) := by decide +kernel
theorem dX12_keyAt_96 : decode cX12_keyAt 96 = .ok (.ireturn, 1) := by decide +kernel
theorem dX12_keyAt_97 : decode cX12_keyAt 97 = .ok (.ldc 82, 2) := by decide +kernel
theorem dX12_keyAt_99 : decode cX12_keyAt 99 = .ok (.iload_n 2, 1) := by decide +kernel
theorem dX12_keyAt_100 : decode cX12_keyAt 100 = .ok (.invokevirtual 90, 3) := by decide +kernel
theorem dX12_keyAt_103 : decode cX12_keyAt 103 = .ok (.bipush 32, 2) := by decide +kernel
theorem dX12_keyAt_105 : decode cX12_keyAt 105 = .ok (.if_icmp .eq 9, 3) := by decide +kernel
theorem dX12_keyAt_108 : decode cX12_keyAt 108 = .ok (.iinc 2 1, 3) := by decide +kernel
theorem dX12_keyAt_111 : decode cX12_keyAt 111 = .ok (.goto (-14), 3) := by decide +kernel
theorem dX12_keyAt_114 : decode cX12_keyAt 114 = .ok (.iinc 2 1, 3) := by decide +kernel
theorem dX12_keyAt_117 : decode cX12_keyAt 117 = .ok (.iinc 1 1, 3) := by decide +kernel
theorem dX12_keyAt_120 : decode cX12_keyAt 120 = .ok (.goto (-116), 3) := by decide +kernel
theorem dX12_keyAt_123 : decode cX12_keyAt 123 = .ok (.bipush 22, 2) := by decide +kernel
theorem dX12_keyAt_125 : decode cX12_keyAt 125 = .ok (.ireturn, 1) := by decide +kernel
theorem dX12_next_0 : decode cX12_next 0 = .ok (.aload_n 0, 1) := by decide +kernel
theorem dX12_next_1 : decode cX12_next 1 = .ok (.aload_n 0, 1) := by decide +kernel
theorem dX12_next_2 : decode cX12_next 2 = .ok (.getfield 97, 3) := by decide +kernel
theorem dX12_next_5 : decode cX12_next 5 = .ok (.putfield 94, 3) := by decide +kernel
theorem dX12_next_8 : decode cX12_next 8 = .ok (.aload_n 0, 1) := by decide +kernel
theorem dX12_next_9 : decode cX12_next 9 = .ok (.aload_n 0, 1) := by decide +kernel
theorem dX12_next_10 : decode cX12_next 10 = .ok (.getfield 94, 3) := by decide +kernel
theorem dX12_next_13 : decode cX12_next 13 = .ok (.invokevirtual 100, 3) := by decide +kernel
theorem dX12_next_16 : decode cX12_next 16 = .ok (.bipush 10, 2) := by decide +kernel
theorem dX12_next_18 : decode cX12_next 18 = .ok (.if_icmp .eq 16, 3) := by decide +kernel
theorem dX12_next_21 : decode cX12_next 21 = .ok (.aload_n 0, 1) := by decide +kernel
theorem dX12_next_22 : decode cX12_next 22 = .ok (.aload_n 0, 1) := by decide +kernel
theorem dX12_next_23 : decode cX12_next 23 = .ok (.getfield 94, 3) := by decide +kernel
theorem dX12_next_26 : decode cX12_next 26 = .ok (.invokevirtual 100, 3) := by decide +kernel
theorem dX12_next_29 : decode cX12_next 29 = .ok (.bipush 32, 2) := by decide +kernel
theorem dX12_next_31 : decode cX12_next 31 = .ok (.if_icmp .ne 16, 3) := by decide +kernel
theorem dX12_next_34 : decode cX12_next 34 = .ok (.aload_n 0, 1) := by decide +kernel
theorem dX12_next_35 : decode cX12_next 35 = .ok (.dup, 1) := by decide +kernel
theorem dX12_next_36 : decode cX12_next 36 = .ok (.getfield 94, 3) := by decide +kernel
theorem dX12_next_39 : decode cX12_next 39 = .ok (.iconst 1, 1) := by decide +kernel
theorem dX12_next_40 : decode cX12_next 40 = .ok (.iadd, 1) := by decide +kernel
theorem dX12_next_41 : decode cX12_next 41 = .ok (.putfield 94, 3) := by decide +kernel
theorem dX12_next_44 : decode cX12_next 44 = .ok (.goto (-36), 3) := by decide +kernel
theorem dX12_next_47 : decode cX12_next 47 = .ok (.aload_n 0, 1) := by decide +kernel
theorem dX12_next_48 : decode cX12_next 48 = .ok (.aload_n 0, 1) := by decide +kernel
theorem dX12_next_49 : decode cX12_next 49 = .ok (.getfield 94, 3) := by decide +kernel
theorem dX12_next_52 : decode cX12_next 52 = .ok (.putfield 97, 3) := by decide +kernel
theorem dX12_next_55 : decode cX12_next 55 = .ok (.aload_n 0, 1) := by decide +kernel
theorem dX12_next_56 : decode cX12_next 56 = .ok (.getfield 94, 3) := by decide +kernel
theorem dX12_next_59 : decode cX12_next 59 = .ok (.aload_n 0, 1) := by decide +kernel
theorem dX12_next_60 : decode cX12_next 60 = .ok (.getfield 79, 3) := by decide +kernel
theorem dX12_next_63 : decode cX12_next 63 = .ok (.if_icmp .lt 12, 3) := by decide +kernel
theorem dX12_next_66 : decode cX12_next 66 = .ok (.aload_n 0, 1) := by decide +kernel
theorem dX12_next_67 : decode cX12_next 67 = .ok (.bipush 24, 2) := by decide +kernel
theorem dX12_next_69 : decode cX12_next 69 = .ok (.putfield 104, 3) := by decide +kernel
theorem dX12_next_72 : decode cX12_next 72 = .ok (.goto 222, 3) := by decide +kernel
theorem dX12_next_75 : decode cX12_next 75 = .ok (.aload_n 0, 1) := by decide +kernel
theorem dX12_next_76 : decode cX12_next 76 = .ok (.aload_n 0, 1) := by decide +kernel
theorem dX12_next_77 : decode cX12_next 77 = .ok (.getfield 94, 3) := by decide +kernel
theorem dX12_next_80 : decode cX12_next 80 = .ok (.invokevirtual 100, 3) := by decide +kernel
theorem dX12_next_83 : decode cX12_next 83 = .ok (.invokestatic 107, 3) := by decide +kernel
theorem dX12_next_86 : decode cX12_next 86 = .ok (.ifCond .eq 41, 3) := by decide +kernel
theorem dX12_next_89 : decode cX12_next 89 = .ok (.aload_n 0, 1) := by decide +kernel
theorem dX12_next_90 : decode cX12_next 90 = .ok (.aload_n 0, 1) := by decide +kernel
theorem dX12_next_91 : decode cX12_next 91 = .ok (.getfield 97, 3) := by decide +kernel
theorem dX12_next_94 : decode cX12_next 94 = .ok (.invokevirtual 100, 3) := by decide +kernel
theorem dX12_next_97 : decode cX12_next 97 = .ok (.invokestatic 107, 3) := by decide +kernel
theorem dX12_next_100 : decode cX12_next 100 = .ok (.ifCond .eq 16, 3) := by decide +kernel
theorem dX12_next_103 : decode cX12_next 103 = .ok (.aload_n 0, 1) := by decide +kernel
theorem dX12_next_104 : decode cX12_next 104 = .ok (.dup, 1) := by decide +kernel
theorem dX12_next_105 : decode cX12_next 105 = .ok (.getfield 97, 3) := by decide +kernel
theorem dX12_next_108 : decode cX12_next 108 = .ok (.iconst 1, 1) := by decide +kernel
theorem dX12_next_109 : decode cX12_next 109 = .ok (.iadd, 1) := by decide +kernel
theorem dX12_next_110 : decode cX12_next 110 = .ok (.putfield 97, 3) := by decide +kernel
theorem dX12_next_113 : decode cX12_next 113 = .ok (.goto (-24), 3) := by decide +kernel
theorem dX12_next_116 : decode cX12_next 116 = .ok (.aload_n 0, 1) := by decide +kernel
theorem dX12_next_117 : decode cX12_next 117 = .ok (.aload_n 0, 1) := by decide +kernel
theorem dX12_next_118 : decode cX12_next 118 = .ok (.invokevirtual 111, 3) := by decide +kernel
theorem dX12_next_121 : decode cX12_next 121 = .ok (.putfield 104, 3) := by decide +kernel
theorem dX12_next_124 : decode cX12_next 124 = .ok (.goto 170, 3) := by decide +kernel
theorem dX12_next_127 : decode cX12_next 127 = .ok (.aload_n 0, 1) := by decide +kernel
theorem dX12_next_128 : decode cX12_next 128 = .ok (.aload_n 0, 1) := by decide +kernel
theorem dX12_next_129 : decode cX12_next 129 = .ok (.getfield 94, 3) := by decide +kernel
theorem dX12_next_132 : decode cX12_next 132 = .ok (.invokevirtual 100, 3) := by decide +kernel
theorem dX12_next_135 : decode cX12_next 135 = .ok (.invokestatic 114, 3) := by decide +kernel
theorem dX12_next_138 : decode cX12_next 138 = .ok (.ifCond .eq 98, 3) := by decide +kernel
theorem dX12_next_141 : decode cX12_next 141 = .ok (.aload_n 0, 1) := by decide +kernel
theorem dX12_next_142 : decode cX12_next 142 = .ok (.iconst 0, 1) := by decide +kernel
theorem dX12_next_143 : decode cX12_next 143 = .ok (.putfield 117, 3) := by decide +kernel
theorem dX12_next_146 : decode cX12_next 146 = .ok (.aload_n 0, 1) := by decide +kernel
theorem dX12_next_147 : decode cX12_next 147 = .ok (.aload_n 0, 1) := by decide +kernel
theorem dX12_next_148 : decode cX12_next 148 = .ok (.getfield 97, 3) := by decide +kernel
theorem dX12_next_151 : decode cX12_next 151 = .ok (.invokevirtual 100, 3) := by decide +kernel
theorem dX12_next_154 : decode cX12_next 154 = .ok (.invokestatic 114, 3) := by decide +kernel
theorem dX12_next_157 : decode cX12_next 157 = .ok (.ifCond .eq 52, 3) := by decide +kernel
theorem dX12_next_160 : decode cX12_next 160 = .ok (.aload_n 0, 1) := by decide +kernel
theorem dX12_next_161 : decode cX12_next 161 = .ok (.getfield 97, 3) := by decide +kernel
theorem dX12_next_164 : decode cX12_next 164 = .ok (.aload_n 0, 1) := by decide +kernel
theorem dX12_next_165 : decode cX12_next 165 = .ok (.getfield 94, 3) := by decide +kernel
theorem dX12_next_168 : decode cX12_next 168 = .ok (.isub, 1) := by decide +kernel
theorem dX12_next_169 : decode cX12_next 169 = .ok (.iconst 3, 1) := by decide +kernel
theorem dX12_next_170 : decode cX12_next 170 = .ok (.if_icmp .ge 26, 3) := by decide +kernel
theorem dX12_next_173 : decode cX12_next 173 = .ok (.aload_n 0, 1) := by decide +kernel
theorem dX12_next_174 : decode cX12_next 174 = .ok (.bipush 10, 2) := by decide +kernel
theorem dX12_next_176 : decode cX12_next 176 = .ok (.aload_n 0, 1) := by decide +kernel
theorem dX12_next_177 : decode cX12_next 177 = .ok (.getfield 117, 3) := by decide +kernel
theorem dX12_next_180 : decode cX12_next 180 = .ok (.imul, 1) := by decide +kernel
theorem dX12_next_181 : decode cX12_next 181 = .ok (.aload_n 0, 1) := by decide +kernel
theorem dX12_next_182 : decode cX12_next 182 = .ok (.aload_n 0, 1) := by decide +kernel
theorem dX12_next_183 : decode cX12_next 183 = .ok (.getfield 97, 3) := by decide +kernel
theorem dX12_next_186 : decode cX12_next 186 = .ok (.invokevirtual 100, 3) := by decide +kernel
theorem dX12_next_189 : decode cX12_next 189 = .ok (.iadd, 1) := by decide +kernel
theorem dX12_next_190 : decode cX12_next 190 = .ok (.bipush 48, 2) := by decide +kernel
theorem dX12_next_192 : decode cX12_next 192 = .ok (.isub, 1) := by decide +kernel
theorem dX12_next_193 : decode cX12_next 193 = .ok (.putfield 117, 3) := by decide +kernel
theorem dX12_next_196 : decode cX12_next 196 = .ok (.aload_n 0, 1) := by decide +kernel
theorem dX12_next_197 : decode cX12_next 197 = .ok (.dup, 1) := by decide +kernel
theorem dX12_next_198 : decode cX12_next 198 = .ok (.getfield 97, 3) := by decide +kernel
theorem dX12_next_201 : decode cX12_next 201 = .ok (.iconst 1, 1) := by decide +kernel
theorem dX12_next_202 : decode cX12_next 202 = .ok (.iadd, 1) := by decide +kernel
theorem dX12_next_203 : decode cX12_next 203 = .ok (.putfield 97, 3) := by decide +kernel
theorem dX12_next_206 : decode cX12_next 206 = .ok (.goto (-60), 3) := by decide +kernel
theorem dX12_next_209 : decode cX12_next 209 = .ok (.aload_n 0, 1) := by decide +kernel
theorem dX12_next_210 : decode cX12_next 210 = .ok (.aload_n 0, 1) := by decide +kernel
theorem dX12_next_211 : decode cX12_next 211 = .ok (.getfield 97, 3) := by decide +kernel
theorem dX12_next_214 : decode cX12_next 214 = .ok (.aload_n 0, 1) := by decide +kernel
theorem dX12_next_215 : decode cX12_next 215 = .ok (.getfield 94, 3) := by decide +kernel
theorem dX12_next_218 : decode cX12_next 218 = .ok (.isub, 1) := by decide +kernel
theorem dX12_next_219 : decode cX12_next 219 = .ok (.iconst 3, 1) := by decide +kernel
theorem dX12_next_220 : decode cX12_next 220 = .ok (.if_icmp .le 8, 3) := by decide +kernel
theorem dX12_next_223 : decode cX12_next 223 = .ok (.bipush 25, 2) := by decide +kernel
theorem dX12_next_225 : decode cX12_next 225 = .ok (.goto 5, 3) := by decide +kernel
theorem dX12_next_228 : decode cX12_next 228 = .ok (.bipush 23, 2) := by decide +kernel
theorem dX12_next_230 : decode cX12_next 230 = .ok (.putfield 104, 3) := by decide +kernel
theorem dX12_next_233 : decode cX12_next 233 = .ok (.goto 61, 3) := by decide +kernel
theorem dX12_next_236 : decode cX12_next 236 = .ok (.aload_n 0, 1) := by decide +kernel
theorem dX12_next_237 : decode cX12_next 237 = .ok (.dup, 1) := by decide +kernel
theorem dX12_next_238 : decode cX12_next 238 = .ok (.getfield 97, 3) := by decide +kernel
theorem dX12_next_241 : decode cX12_next 241 = .ok (.iconst 1, 1) := by decide +kernel
theorem dX12_next_242 : decode cX12_next 242 = .ok (.iadd, 1) := by decide +kernel
theorem dX12_next_243 : decode cX12_next 243 = .ok (.putfield 97, 3) := by decide +kernel
theorem dX12_next_246 : decode cX12_next 246 = .ok (.aload_n 0, 1) := by decide +kernel
theorem dX12_next_247 : decode cX12_next 247 = .ok (.bipush 25, 2) := by decide +kernel
theorem dX12_next_249 : decode cX12_next 249 = .ok (.putfield 104, 3) := by decide +kernel
theorem dX12_next_252 : decode cX12_next 252 = .ok (.iconst 0, 1) := by decide +kernel
theorem dX12_next_253 : decode cX12_next 253 = .ok (.istore_n 1, 1) := by decide +kernel
theorem dX12_next_254 : decode cX12_next 254 = .ok (.iload_n 1, 1) := by decide +kernel
theorem dX12_next_255 : decode cX12_next 255 = .ok (.ldc 120, 2) := by decide +kernel
theorem dX12_next_257 : decode cX12_next 257 = .ok (.invokevirtual 84, 3) := by decide +kernel
theorem dX12_next_260 : decode cX12_next 260 = .ok (.if_icmp .ge 34, 3) := by decide +kernel
theorem dX12_next_263 : decode cX12_next 263 = .ok (.aload_n 0, 1) := by decide +kernel
theorem dX12_next_264 : decode cX12_next 264 = .ok (.aload_n 0, 1) := by decide +kernel
theorem dX12_next_265 : decode cX12_next 265 = .ok (.getfield 94, 3) := by decide +kernel
theorem dX12_next_268 : decode cX12_next 268 = .ok (.invokevirtual 100, 3) := by decide +kernel
theorem dX12_next_271 : decode cX12_next 271 = .ok (.ldc 120, 2) := by decide +kernel
theorem dX12_next_273 : decode cX12_next 273 = .ok (.iload_n 1, 1) := by decide +kernel
theorem dX12_next_274 : decode cX12_next 274 = .ok (.invokevirtual 90, 3) := by decide +kernel
theorem dX12_next_277 : decode cX12_next 277 = .ok (.if_icmp .ne 11, 3) := by decide +kernel
theorem dX12_next_280 : decode cX12_next 280 = .ok (.aload_n 0, 1) := by decide +kernel
theorem dX12_next_281 : decode cX12_next 281 = .ok (.bipush 30, 2) := by decide +kernel
theorem dX12_next_283 : decode cX12_next 283 = .ok (.iload_n 1, 1) := by decide +kernel
theorem dX12_next_284 : decode cX12_next 284 = .ok (.iadd, 1) := by decide +kernel
theorem dX12_next_285 : decode cX12_next 285 = .ok (.putfield 104, 3) := by decide +kernel
theorem dX12_next_288 : decode cX12_next 288 = .ok (.iinc 1 1, 3) := by decide +kernel
theorem dX12_next_291 : decode cX12_next 291 = .ok (.goto (-37), 3) := by decide +kernel
theorem dX12_next_294 : decode cX12_next 294 = .ok (.return_, 1) := by decide +kernel
theorem dX12_fails_0 : decode cX12_fails 0 = .ok (.aload_n 0, 1) := by decide +kernel
theorem dX12_fails_1 : decode cX12_fails 1 = .ok (.getfield 122, 3) := by decide +kernel
theorem dX12_fails_4 : decode cX12_fails 4 = .ok (.ifCond .eq 4, 3) := by decide +kernel
theorem dX12_fails_7 : decode cX12_fails 7 = .ok (.return_, 1) := by decide +kernel
theorem dX12_fails_8 : decode cX12_fails 8 = .ok (.aload_n 0, 1) := by decide +kernel
theorem dX12_fails_9 : decode cX12_fails 9 = .ok (.aload_n 0, 1) := by decide +kernel
theorem dX12_fails_10 : decode cX12_fails 10 = .ok (.getfield 104, 3) := by decide +kernel
theorem dX12_fails_13 : decode cX12_fails 13 = .ok (.bipush 25, 2) := by decide +kernel
theorem dX12_fails_15 : decode cX12_fails 15 = .ok (.if_icmp .ne 7, 3) := by decide +kernel
theorem dX12_fails_18 : decode cX12_fails 18 = .ok (.iconst 1, 1) := by decide +kernel
theorem dX12_fails_19 : decode cX12_fails 19 = .ok (.goto 4, 3) := by decide +kernel
theorem dX12_fails_22 : decode cX12_fails 22 = .ok (.iload_n 1, 1) := by decide +kernel
theorem dX12_fails_23 : decode cX12_fails 23 = .ok (.putfield 122, 3) := by decide +kernel
theorem dX12_fails_26 : decode cX12_fails 26 = .ok (.aload_n 0, 1) := by decide +kernel
theorem dX12_fails_27 : decode cX12_fails 27 = .ok (.aload_n 0, 1) := by decide +kernel
theorem dX12_fails_28 : decode cX12_fails 28 = .ok (.getfield 94, 3) := by decide +kernel
theorem dX12_fails_31 : decode cX12_fails 31 = .ok (.putfield 125, 3) := by decide +kernel
theorem dX12_fails_34 : decode cX12_fails 34 = .ok (.return_, 1) := by decide +kernel
theorem dX12_is_0 : decode cX12_is 0 = .ok (.aload_n 0, 1) := by decide +kernel
theorem dX12_is_1 : decode cX12_is 1 = .ok (.getfield 122, 3) := by decide +kernel
theorem dX12_is_4 : decode cX12_is 4 = .ok (.ifCond .ne 15, 3) := by decide +kernel
theorem dX12_is_7 : decode cX12_is 7 = .ok (.aload_n 0, 1) := by decide +kernel
theorem dX12_is_8 : decode cX12_is 8 = .ok (.getfield 104, 3) := by decide +kernel
theorem dX12_is_11 : decode cX12_is 11 = .ok (.iload_n 1, 1) := by decide +kernel
theorem dX12_is_12 : decode cX12_is 12 = .ok (.if_icmp .ne 7, 3) := by decide +kernel
theorem dX12_is_15 : decode cX12_is 15 = .ok (.iconst 1, 1) := by decide +kernel
theorem dX12_is_16 : decode cX12_is 16 = .ok (.goto 4, 3) := by decide +kernel
theorem dX12_is_19 : decode cX12_is 19 = .ok (.iconst 0, 1) := by decide +kernel
theorem dX12_is_20 : decode cX12_is 20 = .ok (.ireturn, 1) := by decide +kernel
theorem dX12_eats_0 : decode cX12_eats 0 = .ok (.aload_n 0, 1) := by decide +kernel
theorem dX12_eats_1 : decode cX12_eats 1 = .ok (.iload_n 1, 1) := by decide +kernel
theorem dX12_eats_2 : decode cX12_eats 2 = .ok (.invokevirtual 128, 3) := by decide +kernel
theorem dX12_eats_5 : decode cX12_eats 5 = .ok (.ifCond .ne 5, 3) := by decide +kernel
theorem dX12_eats_8 : decode cX12_eats 8 = .ok (.iconst 0, 1) := by decide +kernel
theorem dX12_eats_9 : decode cX12_eats 9 = .ok (.ireturn, 1) := by decide +kernel
theorem dX12_eats_10 : decode cX12_eats 10 = .ok (.aload_n 0, 1) := by decide +kernel
theorem dX12_eats_11 : decode cX12_eats 11 = .ok (.invokevirtual 131, 3) := by decide +kernel
theorem dX12_eats_14 : decode cX12_eats 14 = .ok (.iconst 1, 1) := by decide +kernel
theorem dX12_eats_15 : decode cX12_eats 15 = .ok (.ireturn, 1) := by decide +kernel
theorem dX12_takes_0 : decode cX12_takes 0 = .ok (.aload_n 0, 1) := by decide +kernel
theorem dX12_takes_1 : decode cX12_takes 1 = .ok (.bipush 23, 2) := by decide +kernel
theorem dX12_takes_3 : decode cX12_takes 3 = .ok (.invokevirtual 128, 3) := by decide +kernel
theorem dX12_takes_6 : decode cX12_takes 6 = .ok (.ifCond .ne 11, 3) := by decide +kernel
theorem dX12_takes_9 : decode cX12_takes 9 = .ok (.aload_n 0, 1) := by decide +kernel
theorem dX12_takes_10 : decode cX12_takes 10 = .ok (.iconst 2, 1) := by decide +kernel
theorem dX12_takes_11 : decode cX12_takes 11 = .ok (.invokevirtual 134, 3) := by decide +kernel
theorem dX12_takes_14 : decode cX12_takes 14 = .ok (.goto 23, 3) := by decide +kernel
theorem dX12_takes_17 : decode cX12_takes 17 = .ok (.aload_n 0, 1) := by decide +kernel
theorem dX12_takes_18 : decode cX12_takes 18 = .ok (.getfield 117, 3) := by decide +kernel
theorem dX12_takes_21 : decode cX12_takes 21 = .ok (.i2l, 1) := by decide +kernel
theorem dX12_takes_22 : decode cX12_takes 22 = .ok (.iload_n 1, 1) := by decide +kernel
theorem dX12_takes_23 : decode cX12_takes 23 = .ok (.i2l, 1) := by decide +kernel
theorem dX12_takes_24 : decode cX12_takes 24 = .ok (.iload_n 2, 1) := by decide +kernel
theorem dX12_takes_25 : decode cX12_takes 25 = .ok (.i2l, 1) := by decide +kernel
theorem dX12_takes_26 : decode cX12_takes 26 = .ok (.invokestatic 138, 3) := by decide +kernel
theorem dX12_takes_29 : decode cX12_takes 29 = .ok (.ifCond .ne 8, 3) := by decide +kernel
theorem dX12_takes_32 : decode cX12_takes 32 = .ok (.aload_n 0, 1) := by decide +kernel
theorem dX12_takes_33 : decode cX12_takes 33 = .ok (.iconst 3, 1) := by decide +kernel
theorem dX12_takes_34 : decode cX12_takes 34 = .ok (.invokevirtual 134, 3) := by decide +kernel
theorem dX12_takes_37 : decode cX12_takes 37 = .ok (.aload_n 0, 1) := by decide +kernel
theorem dX12_takes_38 : decode cX12_takes 38 = .ok (.getfield 117, 3) := by decide +kernel
theorem dX12_takes_41 : decode cX12_takes 41 = .ok (.istore_n 3, 1) := by decide +kernel
theorem dX12_takes_42 : decode cX12_takes 42 = .ok (.aload_n 0, 1) := by decide +kernel
theorem dX12_takes_43 : decode cX12_takes 43 = .ok (.getfield 122, 3) := by decide +kernel
theorem dX12_takes_46 : decode cX12_takes 46 = .ok (.ifCond .ne 7, 3) := by decide +kernel
theorem dX12_takes_49 : decode cX12_takes 49 = .ok (.aload_n 0, 1) := by decide +kernel
theorem dX12_takes_50 : decode cX12_takes 50 = .ok (.invokevirtual 131, 3) := by decide +kernel
theorem dX12_takes_53 : decode cX12_takes 53 = .ok (.iload_n 3, 1) := by decide +kernel
theorem dX12_takes_54 : decode cX12_takes 54 = .ok (.ireturn, 1) := by decide +kernel
theorem dX12_isIn_0 : decode cX12_isIn 0 = .ok (.lload_n 0, 1) := by decide +kernel
theorem dX12_isIn_1 : decode cX12_isIn 1 = .ok (.iload_n 2, 1) := by decide +kernel
theorem dX12_isIn_2 : decode cX12_isIn 2 = .ok (.lshr, 1) := by decide +kernel
theorem dX12_isIn_3 : decode cX12_isIn 3 = .ok (.lconst 1, 1) := by decide +kernel
theorem dX12_isIn_4 : decode cX12_isIn 4 = .ok (.land, 1) := by decide +kernel
theorem dX12_isIn_5 : decode cX12_isIn 5 = .ok (.lconst 1, 1) := by decide +kernel
theorem dX12_isIn_6 : decode cX12_isIn 6 = .ok (.lcmp, 1) := by decide +kernel
theorem dX12_isIn_7 : decode cX12_isIn 7 = .ok (.ifCond .ne 7, 3) := by decide +kernel
theorem dX12_isIn_10 : decode cX12_isIn 10 = .ok (.iconst 1, 1) := by decide +kernel
theorem dX12_isIn_11 : decode cX12_isIn 11 = .ok (.goto 4, 3) := by decide +kernel
theorem dX12_isIn_14 : decode cX12_isIn 14 = .ok (.iconst 0, 1) := by decide +kernel
theorem dX12_isIn_15 : decode cX12_isIn 15 = .ok (.ireturn, 1) := by decide +kernel
theorem dX12_wordOf_0 : decode cX12_wordOf 0 = .ok (.iload_n 1, 1) := by decide +kernel
theorem dX12_wordOf_1 : decode cX12_wordOf 1 = .ok (.tableswitch 106 1 17 #[85, 87, 106, 106, 106, 106, 93, 106, 106, 106, 106, 106, 106, 106, 83, 89, 91], 83) := by decide +kernel
theorem dX12_wordOf_84 : decode cX12_wordOf 84 = .ok (.iconst 0, 1) := by decide +kernel
theorem dX12_wordOf_85 : decode cX12_wordOf 85 = .ok (.ireturn, 1) := by decide +kernel
theorem dX12_wordOf_86 : decode cX12_wordOf 86 = .ok (.iconst 1, 1) := by decide +kernel
theorem dX12_wordOf_87 : decode cX12_wordOf 87 = .ok (.ireturn, 1) := by decide +kernel
theorem dX12_wordOf_88 : decode cX12_wordOf 88 = .ok (.iconst 2, 1) := by decide +kernel
theorem dX12_wordOf_89 : decode cX12_wordOf 89 = .ok (.ireturn, 1) := by decide +kernel
theorem dX12_wordOf_90 : decode cX12_wordOf 90 = .ok (.iconst 3, 1) := by decide +kernel
theorem dX12_wordOf_91 : decode cX12_wordOf 91 = .ok (.ireturn, 1) := by decide +kernel
theorem dX12_wordOf_92 : decode cX12_wordOf 92 = .ok (.iconst 4, 1) := by decide +kernel
theorem dX12_wordOf_93 : decode cX12_wordOf 93 = .ok (.ireturn, 1) := by decide +kernel
theorem dX12_wordOf_94 : decode cX12_wordOf 94 = .ok (.aload_n 0, 1) := by decide +kernel
theorem dX12_wordOf_95 : decode cX12_wordOf 95 = .ok (.getfield 142, 3) := by decide +kernel
theorem dX12_wordOf_98 : decode cX12_wordOf 98 = .ok (.ifCond .ne 7, 3) := by decide +kernel
theorem dX12_wordOf_101 : decode cX12_wordOf 101 = .ok (.iconst 5, 1) := by decide +kernel
theorem dX12_wordOf_102 : decode cX12_wordOf 102 = .ok (.goto 4, 3) := by decide +kernel
theorem dX12_wordOf_105 : decode cX12_wordOf 105 = .ok (.iconst (-1), 1) := by decide +kernel
theorem dX12_wordOf_106 : decode cX12_wordOf 106 = .ok (.ireturn, 1) := by decide +kernel
theorem dX12_wordOf_107 : decode cX12_wordOf 107 = .ok (.iconst (-1), 1) := by decide +kernel
theorem dX12_wordOf_108 : decode cX12_wordOf 108 = .ok (.ireturn, 1) := by decide +kernel
theorem dX12_codes_0 : decode cX12_codes 0 = .ok (.aload_n 0, 1) := by decide +kernel
theorem dX12_codes_1 : decode cX12_codes 1 = .ok (.getfield 122, 3) := by decide +kernel
theorem dX12_codes_4 : decode cX12_codes 4 = .ok (.ifCond .eq 4, 3) := by decide +kernel
theorem dX12_codes_7 : decode cX12_codes 7 = .ok (.return_, 1) := by decide +kernel
theorem dX12_codes_8 : decode cX12_codes 8 = .ok (.aload_n 0, 1) := by decide +kernel
theorem dX12_codes_9 : decode cX12_codes 9 = .ok (.getfield 24, 3) := by decide +kernel
theorem dX12_codes_12 : decode cX12_codes 12 = .ok (.sipush 144, 3) := by decide +kernel
theorem dX12_codes_15 : decode cX12_codes 15 = .ok (.aload_n 0, 1) := by decide +kernel
theorem dX12_codes_16 : decode cX12_codes 16 = .ok (.getfield 24, 3) := by decide +kernel
theorem dX12_codes_19 : decode cX12_codes 19 = .ok (.sipush 143, 3) := by decide +kernel
theorem dX12_codes_22 : decode cX12_codes 22 = .ok (.iaload, 1) := by decide +kernel
theorem dX12_codes_23 : decode cX12_codes 23 = .ok (.iadd, 1) := by decide +kernel
theorem dX12_codes_24 : decode cX12_codes 24 = .ok (.iload_n 1, 1) := by decide +kernel
theorem dX12_codes_25 : decode cX12_codes 25 = .ok (.iastore, 1) := by decide +kernel
theorem dX12_codes_26 : decode cX12_codes 26 = .ok (.aload_n 0, 1) := by decide +kernel
theorem dX12_codes_27 : decode cX12_codes 27 = .ok (.getfield 24, 3) := by decide +kernel
theorem dX12_codes_30 : decode cX12_codes 30 = .ok (.sipush 143, 3) := by decide +kernel
theorem dX12_codes_33 : decode cX12_codes 33 = .ok (.dup2, 1) := by decide +kernel
theorem dX12_codes_34 : decode cX12_codes 34 = .ok (.iaload, 1) := by decide +kernel
theorem dX12_codes_35 : decode cX12_codes 35 = .ok (.iconst 1, 1) := by decide +kernel
theorem dX12_codes_36 : decode cX12_codes 36 = .ok (.iadd, 1) := by decide +kernel
theorem dX12_codes_37 : decode cX12_codes 37 = .ok (.iastore, 1) := by decide +kernel
theorem dX12_codes_38 : decode cX12_codes 38 = .ok (.return_, 1) := by decide +kernel
theorem dX12_goesIn_0 : decode cX12_goesIn 0 = .ok (.iload_n 1, 1) := by decide +kernel
theorem dX12_goesIn_1 : decode cX12_goesIn 1 = .ok (.bipush 6, 2) := by decide +kernel
theorem dX12_goesIn_3 : decode cX12_goesIn 3 = .ok (.if_icmp .ne 8, 3) := by decide +kernel
theorem dX12_goesIn_6 : decode cX12_goesIn 6 = .ok (.aload_n 0, 1) := by decide +kernel
theorem dX12_goesIn_7 : decode cX12_goesIn 7 = .ok (.iconst 4, 1) := by decide +kernel
theorem dX12_goesIn_8 : decode cX12_goesIn 8 = .ok (.invokevirtual 134, 3) := by decide +kernel
theorem dX12_goesIn_11 : decode cX12_goesIn 11 = .ok (.aload_n 0, 1) := by decide +kernel
theorem dX12_goesIn_12 : decode cX12_goesIn 12 = .ok (.getfield 122, 3) := by decide +kernel
theorem dX12_goesIn_15 : decode cX12_goesIn 15 = .ok (.ifCond .ne 7, 3) := by decide +kernel
theorem dX12_goesIn_18 : decode cX12_goesIn 18 = .ok (.aload_n 0, 1) := by decide +kernel
theorem dX12_goesIn_19 : decode cX12_goesIn 19 = .ok (.invokevirtual 131, 3) := by decide +kernel
theorem dX12_goesIn_22 : decode cX12_goesIn 22 = .ok (.aload_n 0, 1) := by decide +kernel
theorem dX12_goesIn_23 : decode cX12_goesIn 23 = .ok (.getfield 122, 3) := by decide +kernel
theorem dX12_goesIn_26 : decode cX12_goesIn 26 = .ok (.ifCond .ne 7, 3) := by decide +kernel
theorem dX12_goesIn_29 : decode cX12_goesIn 29 = .ok (.iconst 1, 1) := by decide +kernel
theorem dX12_goesIn_30 : decode cX12_goesIn 30 = .ok (.goto 4, 3) := by decide +kernel
theorem dX12_goesIn_33 : decode cX12_goesIn 33 = .ok (.iconst 0, 1) := by decide +kernel
theorem dX12_goesIn_34 : decode cX12_goesIn 34 = .ok (.ireturn, 1) := by decide +kernel
theorem dX12_readAtom_0 : decode cX12_readAtom 0 = .ok (.aload_n 0, 1) := by decide +kernel
theorem dX12_readAtom_1 : decode cX12_readAtom 1 = .ok (.bipush 23, 2) := by decide +kernel
theorem dX12_readAtom_3 : decode cX12_readAtom 3 = .ok (.invokevirtual 128, 3) := by decide +kernel
theorem dX12_readAtom_6 : decode cX12_readAtom 6 = .ok (.ifCond .eq 18, 3) := by decide +kernel
theorem dX12_readAtom_9 : decode cX12_readAtom 9 = .ok (.aload_n 0, 1) := by decide +kernel
theorem dX12_readAtom_10 : decode cX12_readAtom 10 = .ok (.aload_n 0, 1) := by decide +kernel
theorem dX12_readAtom_11 : decode cX12_readAtom 11 = .ok (.getfield 117, 3) := by decide +kernel
theorem dX12_readAtom_14 : decode cX12_readAtom 14 = .ok (.invokevirtual 145, 3) := by decide +kernel
theorem dX12_readAtom_17 : decode cX12_readAtom 17 = .ok (.aload_n 0, 1) := by decide +kernel
theorem dX12_readAtom_18 : decode cX12_readAtom 18 = .ok (.invokevirtual 131, 3) := by decide +kernel
theorem dX12_readAtom_21 : decode cX12_readAtom 21 = .ok (.goto 109, 3) := by decide +kernel
theorem dX12_readAtom_24 : decode cX12_readAtom 24 = .ok (.aload_n 0, 1) := by decide +kernel
theorem dX12_readAtom_25 : decode cX12_readAtom 25 = .ok (.getfield 122, 3) := by decide +kernel
theorem dX12_readAtom_28 : decode cX12_readAtom 28 = .ok (.ifCond .ne 38, 3) := by decide +kernel
theorem dX12_readAtom_31 : decode cX12_readAtom 31 = .ok (.aload_n 0, 1) := by decide +kernel
theorem dX12_readAtom_32 : decode cX12_readAtom 32 = .ok (.aload_n 0, 1) := by decide +kernel
theorem dX12_readAtom_33 : decode cX12_readAtom 33 = .ok (.getfield 104, 3) := by decide +kernel
theorem dX12_readAtom_36 : decode cX12_readAtom 36 = .ok (.invokevirtual 148, 3) := by decide +kernel
theorem dX12_readAtom_39 : decode cX12_readAtom 39 = .ok (.iconst (-1), 1) := by decide +kernel
theorem dX12_readAtom_40 : decode cX12_readAtom 40 = .ok (.if_icmp .eq 26, 3) := by decide +kernel
theorem dX12_readAtom_43 : decode cX12_readAtom 43 = .ok (.aload_n 0, 1) := by decide +kernel
theorem dX12_readAtom_44 : decode cX12_readAtom 44 = .ok (.sipush 1000, 3) := by decide +kernel
theorem dX12_readAtom_47 : decode cX12_readAtom 47 = .ok (.aload_n 0, 1) := by decide +kernel
theorem dX12_readAtom_48 : decode cX12_readAtom 48 = .ok (.aload_n 0, 1) := by decide +kernel
theorem dX12_readAtom_49 : decode cX12_readAtom 49 = .ok (.getfield 104, 3) := by decide +kernel
theorem dX12_readAtom_52 : decode cX12_readAtom 52 = .ok (.invokevirtual 148, 3) := by decide +kernel
theorem dX12_readAtom_55 : decode cX12_readAtom 55 = .ok (.iadd, 1) := by decide +kernel
theorem dX12_readAtom_56 : decode cX12_readAtom 56 = .ok (.invokevirtual 145, 3) := by decide +kernel
theorem dX12_readAtom_59 : decode cX12_readAtom 59 = .ok (.aload_n 0, 1) := by decide +kernel
theorem dX12_readAtom_60 : decode cX12_readAtom 60 = .ok (.invokevirtual 131, 3) := by decide +kernel
theorem dX12_readAtom_63 : decode cX12_readAtom 63 = .ok (.goto 67, 3) := by decide +kernel
theorem dX12_readAtom_66 : decode cX12_readAtom 66 = .ok (.aload_n 0, 1) := by decide +kernel
theorem dX12_readAtom_67 : decode cX12_readAtom 67 = .ok (.bipush 35, 2) := by decide +kernel
theorem dX12_readAtom_69 : decode cX12_readAtom 69 = .ok (.invokevirtual 128, 3) := by decide +kernel
theorem dX12_readAtom_72 : decode cX12_readAtom 72 = .ok (.ifCond .eq 36, 3) := by decide +kernel
theorem dX12_readAtom_75 : decode cX12_readAtom 75 = .ok (.aload_n 0, 1) := by decide +kernel
theorem dX12_readAtom_76 : decode cX12_readAtom 76 = .ok (.iload_n 1, 1) := by decide +kernel
theorem dX12_readAtom_77 : decode cX12_readAtom 77 = .ok (.invokevirtual 151, 3) := by decide +kernel
theorem dX12_readAtom_80 : decode cX12_readAtom 80 = .ok (.ifCond .ne 4, 3) := by decide +kernel
theorem dX12_readAtom_83 : decode cX12_readAtom 83 = .ok (.return_, 1) := by decide +kernel
theorem dX12_readAtom_84 : decode cX12_readAtom 84 = .ok (.aload_n 0, 1) := by decide +kernel
theorem dX12_readAtom_85 : decode cX12_readAtom 85 = .ok (.iload_n 1, 1) := by decide +kernel
theorem dX12_readAtom_86 : decode cX12_readAtom 86 = .ok (.iconst 1, 1) := by decide +kernel
theorem dX12_readAtom_87 : decode cX12_readAtom 87 = .ok (.iadd, 1) := by decide +kernel
theorem dX12_readAtom_88 : decode cX12_readAtom 88 = .ok (.invokevirtual 154, 3) := by decide +kernel
theorem dX12_readAtom_91 : decode cX12_readAtom 91 = .ok (.aload_n 0, 1) := by decide +kernel
theorem dX12_readAtom_92 : decode cX12_readAtom 92 = .ok (.bipush 36, 2) := by decide +kernel
theorem dX12_readAtom_94 : decode cX12_readAtom 94 = .ok (.invokevirtual 157, 3) := by decide +kernel
theorem dX12_readAtom_97 : decode cX12_readAtom 97 = .ok (.ifCond .ne 33, 3) := by decide +kernel
theorem dX12_readAtom_100 : decode cX12_readAtom 100 = .ok (.aload_n 0, 1) := by decide +kernel
theorem dX12_readAtom_101 : decode cX12_readAtom 101 = .ok (.iconst 2, 1) := by decide +kernel
theorem dX12_readAtom_102 : decode cX12_readAtom 102 = .ok (.invokevirtual 134, 3) := by decide +kernel
theorem dX12_readAtom_105 : decode cX12_readAtom 105 = .ok (.goto 25, 3) := by decide +kernel
theorem dX12_readAtom_108 : decode cX12_readAtom 108 = .ok (.aload_n 0, 1) := by decide +kernel
theorem dX12_readAtom_109 : decode cX12_readAtom 109 = .ok (.bipush 11, 2) := by decide +kernel
theorem dX12_readAtom_111 : decode cX12_readAtom 111 = .ok (.invokevirtual 128, 3) := by decide +kernel
theorem dX12_readAtom_114 : decode cX12_readAtom 114 = .ok (.ifCond .eq 11, 3) := by decide +kernel
theorem dX12_readAtom_117 : decode cX12_readAtom 117 = .ok (.aload_n 0, 1) := by decide +kernel
theorem dX12_readAtom_118 : decode cX12_readAtom 118 = .ok (.iload_n 1, 1) := by decide +kernel
theorem dX12_readAtom_119 : decode cX12_readAtom 119 = .ok (.invokevirtual 160, 3) := by decide +kernel
theorem dX12_readAtom_122 : decode cX12_readAtom 122 = .ok (.goto 8, 3) := by decide +kernel
theorem dX12_readAtom_125 : decode cX12_readAtom 125 = .ok (.aload_n 0, 1) := by decide +kernel
theorem dX12_readAtom_126 : decode cX12_readAtom 126 = .ok (.iconst 2, 1) := by decide +kernel
theorem dX12_readAtom_127 : decode cX12_readAtom 127 = .ok (.invokevirtual 134, 3) := by decide +kernel
theorem dX12_readAtom_130 : decode cX12_readAtom 130 = .ok (.return_, 1) := by decide +kernel
theorem dX12_readIf_0 : decode cX12_readIf 0 = .ok (.aload_n 0, 1) := by decide +kernel
theorem dX12_readIf_1 : decode cX12_readIf 1 = .ok (.iload_n 1, 1) := by decide +kernel
theorem dX12_readIf_2 : decode cX12_readIf 2 = .ok (.invokevirtual 151, 3) := by decide +kernel
theorem dX12_readIf_5 : decode cX12_readIf 5 = .ok (.ifCond .ne 4, 3) := by decide +kernel
theorem dX12_readIf_8 : decode cX12_readIf 8 = .ok (.return_, 1) := by decide +kernel
theorem dX12_readIf_9 : decode cX12_readIf 9 = .ok (.aload_n 0, 1) := by decide +kernel
theorem dX12_readIf_10 : decode cX12_readIf 10 = .ok (.iload_n 1, 1) := by decide +kernel
theorem dX12_readIf_11 : decode cX12_readIf 11 = .ok (.iconst 1, 1) := by decide +kernel
theorem dX12_readIf_12 : decode cX12_readIf 12 = .ok (.iadd, 1) := by decide +kernel
theorem dX12_readIf_13 : decode cX12_readIf 13 = .ok (.invokevirtual 163, 3) := by decide +kernel
theorem dX12_readIf_16 : decode cX12_readIf 16 = .ok (.aload_n 0, 1) := by decide +kernel
theorem dX12_readIf_17 : decode cX12_readIf 17 = .ok (.bipush 12, 2) := by decide +kernel
theorem dX12_readIf_19 : decode cX12_readIf 19 = .ok (.invokevirtual 157, 3) := by decide +kernel
theorem dX12_readIf_22 : decode cX12_readIf 22 = .ok (.ifCond .ne 8, 3) := by decide +kernel
theorem dX12_readIf_25 : decode cX12_readIf 25 = .ok (.aload_n 0, 1) := by decide +kernel
theorem dX12_readIf_26 : decode cX12_readIf 26 = .ok (.iconst 2, 1) := by decide +kernel
theorem dX12_readIf_27 : decode cX12_readIf 27 = .ok (.invokevirtual 134, 3) := by decide +kernel
theorem dX12_readIf_30 : decode cX12_readIf 30 = .ok (.aload_n 0, 1) := by decide +kernel
theorem dX12_readIf_31 : decode cX12_readIf 31 = .ok (.iload_n 1, 1) := by decide +kernel
theorem dX12_readIf_32 : decode cX12_readIf 32 = .ok (.iconst 1, 1) := by decide +kernel
theorem dX12_readIf_33 : decode cX12_readIf 33 = .ok (.iadd, 1) := by decide +kernel
theorem dX12_readIf_34 : decode cX12_readIf 34 = .ok (.invokevirtual 154, 3) := by decide +kernel
theorem dX12_readIf_37 : decode cX12_readIf 37 = .ok (.aload_n 0, 1) := by decide +kernel
theorem dX12_readIf_38 : decode cX12_readIf 38 = .ok (.bipush 13, 2) := by decide +kernel
theorem dX12_readIf_40 : decode cX12_readIf 40 = .ok (.invokevirtual 157, 3) := by decide +kernel
theorem dX12_readIf_43 : decode cX12_readIf 43 = .ok (.ifCond .ne 8, 3) := by decide +kernel
theorem dX12_readIf_46 : decode cX12_readIf 46 = .ok (.aload_n 0, 1) := by decide +kernel
theorem dX12_readIf_47 : decode cX12_readIf 47 = .ok (.iconst 2, 1) := by decide +kernel
theorem dX12_readIf_48 : decode cX12_readIf 48 = .ok (.invokevirtual 134, 3) := by decide +kernel
theorem dX12_readIf_51 : decode cX12_readIf 51 = .ok (.aload_n 0, 1) := by decide +kernel
theorem dX12_readIf_52 : decode cX12_readIf 52 = .ok (.iload_n 1, 1) := by decide +kernel
theorem dX12_readIf_53 : decode cX12_readIf 53 = .ok (.iconst 1, 1) := by decide +kernel
theorem dX12_readIf_54 : decode cX12_readIf 54 = .ok (.iadd, 1) := by decide +kernel
theorem dX12_readIf_55 : decode cX12_readIf 55 = .ok (.invokevirtual 154, 3) := by decide +kernel
theorem dX12_readIf_58 : decode cX12_readIf 58 = .ok (.aload_n 0, 1) := by decide +kernel
theorem dX12_readIf_59 : decode cX12_readIf 59 = .ok (.bipush 14, 2) := by decide +kernel
theorem dX12_readIf_61 : decode cX12_readIf 61 = .ok (.invokevirtual 157, 3) := by decide +kernel
theorem dX12_readIf_64 : decode cX12_readIf 64 = .ok (.ifCond .ne 8, 3) := by decide +kernel
theorem dX12_readIf_67 : decode cX12_readIf 67 = .ok (.aload_n 0, 1) := by decide +kernel
theorem dX12_readIf_68 : decode cX12_readIf 68 = .ok (.iconst 2, 1) := by decide +kernel
theorem dX12_readIf_69 : decode cX12_readIf 69 = .ok (.invokevirtual 134, 3) := by decide +kernel
theorem dX12_readIf_72 : decode cX12_readIf 72 = .ok (.aload_n 0, 1) := by decide +kernel
theorem dX12_readIf_73 : decode cX12_readIf 73 = .ok (.sipush 3009, 3) := by decide +kernel
theorem dX12_readIf_76 : decode cX12_readIf 76 = .ok (.invokevirtual 145, 3) := by decide +kernel
theorem dX12_readIf_79 : decode cX12_readIf 79 = .ok (.return_, 1) := by decide +kernel
theorem dX12_readTerm_0 : decode cX12_readTerm 0 = .ok (.aload_n 0, 1) := by decide +kernel
theorem dX12_readTerm_1 : decode cX12_readTerm 1 = .ok (.iload_n 1, 1) := by decide +kernel
theorem dX12_readTerm_2 : decode cX12_readTerm 2 = .ok (.invokevirtual 166, 3) := by decide +kernel
theorem dX12_readTerm_5 : decode cX12_readTerm 5 = .ok (.aload_n 0, 1) := by decide +kernel
theorem dX12_readTerm_6 : decode cX12_readTerm 6 = .ok (.bipush 34, 2) := by decide +kernel
theorem dX12_readTerm_8 : decode cX12_readTerm 8 = .ok (.invokevirtual 157, 3) := by decide +kernel
theorem dX12_readTerm_11 : decode cX12_readTerm 11 = .ok (.ifCond .eq 18, 3) := by decide +kernel
theorem dX12_readTerm_14 : decode cX12_readTerm 14 = .ok (.aload_n 0, 1) := by decide +kernel
theorem dX12_readTerm_15 : decode cX12_readTerm 15 = .ok (.iload_n 1, 1) := by decide +kernel
theorem dX12_readTerm_16 : decode cX12_readTerm 16 = .ok (.invokevirtual 166, 3) := by decide +kernel
theorem dX12_readTerm_19 : decode cX12_readTerm 19 = .ok (.aload_n 0, 1) := by decide +kernel
theorem dX12_readTerm_20 : decode cX12_readTerm 20 = .ok (.sipush 3002, 3) := by decide +kernel
theorem dX12_readTerm_23 : decode cX12_readTerm 23 = .ok (.invokevirtual 145, 3) := by decide +kernel
theorem dX12_readTerm_26 : decode cX12_readTerm 26 = .ok (.goto (-21), 3) := by decide +kernel
theorem dX12_readTerm_29 : decode cX12_readTerm 29 = .ok (.return_, 1) := by decide +kernel
theorem dX12_readSum_0 : decode cX12_readSum 0 = .ok (.aload_n 0, 1) := by decide +kernel
theorem dX12_readSum_1 : decode cX12_readSum 1 = .ok (.iload_n 1, 1) := by decide +kernel
theorem dX12_readSum_2 : decode cX12_readSum 2 = .ok (.invokevirtual 169, 3) := by decide +kernel
theorem dX12_readSum_5 : decode cX12_readSum 5 = .ok (.aload_n 0, 1) := by decide +kernel
theorem dX12_readSum_6 : decode cX12_readSum 6 = .ok (.bipush 32, 2) := by decide +kernel
theorem dX12_readSum_8 : decode cX12_readSum 8 = .ok (.invokevirtual 128, 3) := by decide +kernel
theorem dX12_readSum_11 : decode cX12_readSum 11 = .ok (.ifCond .ne 12, 3) := by decide +kernel
theorem dX12_readSum_14 : decode cX12_readSum 14 = .ok (.aload_n 0, 1) := by decide +kernel
theorem dX12_readSum_15 : decode cX12_readSum 15 = .ok (.bipush 33, 2) := by decide +kernel
theorem dX12_readSum_17 : decode cX12_readSum 17 = .ok (.invokevirtual 128, 3) := by decide +kernel
theorem dX12_readSum_20 : decode cX12_readSum 20 = .ok (.ifCond .eq 39, 3) := by decide +kernel
theorem dX12_readSum_23 : decode cX12_readSum 23 = .ok (.aload_n 0, 1) := by decide +kernel
theorem dX12_readSum_24 : decode cX12_readSum 24 = .ok (.getfield 104, 3) := by decide +kernel
theorem dX12_readSum_27 : decode cX12_readSum 27 = .ok (.bipush 32, 2) := by decide +kernel
theorem dX12_readSum_29 : decode cX12_readSum 29 = .ok (.if_icmp .ne 9, 3) := by decide +kernel
theorem dX12_readSum_32 : decode cX12_readSum 32 = .ok (.sipush 3000, 3) := by decide +kernel
theorem dX12_readSum_35 : decode cX12_readSum 35 = .ok (.goto 6, 3) := by decide +kernel
theorem dX12_readSum_38 : decode cX12_readSum 38 = .ok (.sipush 3001, 3) := by decide +kernel
theorem dX12_readSum_41 : decode cX12_readSum 41 = .ok (.istore_n 2, 1) := by decide +kernel
theorem dX12_readSum_42 : decode cX12_readSum 42 = .ok (.aload_n 0, 1) := by decide +kernel
theorem dX12_readSum_43 : decode cX12_readSum 43 = .ok (.invokevirtual 131, 3) := by decide +kernel
theorem dX12_readSum_46 : decode cX12_readSum 46 = .ok (.aload_n 0, 1) := by decide +kernel
theorem dX12_readSum_47 : decode cX12_readSum 47 = .ok (.iload_n 1, 1) := by decide +kernel
theorem dX12_readSum_48 : decode cX12_readSum 48 = .ok (.invokevirtual 169, 3) := by decide +kernel
theorem dX12_readSum_51 : decode cX12_readSum 51 = .ok (.aload_n 0, 1) := by decide +kernel
theorem dX12_readSum_52 : decode cX12_readSum 52 = .ok (.iload_n 2, 1) := by decide +kernel
theorem dX12_readSum_53 : decode cX12_readSum 53 = .ok (.invokevirtual 145, 3) := by decide +kernel
theorem dX12_readSum_56 : decode cX12_readSum 56 = .ok (.goto (-51), 3) := by decide +kernel
theorem dX12_readSum_59 : decode cX12_readSum 59 = .ok (.return_, 1) := by decide +kernel
theorem dX12_readUnit_0 : decode cX12_readUnit 0 = .ok (.aload_n 0, 1) := by decide +kernel
theorem dX12_readUnit_1 : decode cX12_readUnit 1 = .ok (.bipush 20, 2) := by decide +kernel
theorem dX12_readUnit_3 : decode cX12_readUnit 3 = .ok (.invokevirtual 128, 3) := by decide +kernel
theorem dX12_readUnit_6 : decode cX12_readUnit 6 = .ok (.ifCond .eq 27, 3) := by decide +kernel
theorem dX12_readUnit_9 : decode cX12_readUnit 9 = .ok (.aload_n 0, 1) := by decide +kernel
theorem dX12_readUnit_10 : decode cX12_readUnit 10 = .ok (.iload_n 1, 1) := by decide +kernel
theorem dX12_readUnit_11 : decode cX12_readUnit 11 = .ok (.invokevirtual 151, 3) := by decide +kernel
theorem dX12_readUnit_14 : decode cX12_readUnit 14 = .ok (.ifCond .ne 4, 3) := by decide +kernel
theorem dX12_readUnit_17 : decode cX12_readUnit 17 = .ok (.return_, 1) := by decide +kernel
theorem dX12_readUnit_18 : decode cX12_readUnit 18 = .ok (.aload_n 0, 1) := by decide +kernel
theorem dX12_readUnit_19 : decode cX12_readUnit 19 = .ok (.iload_n 1, 1) := by decide +kernel
theorem dX12_readUnit_20 : decode cX12_readUnit 20 = .ok (.iconst 1, 1) := by decide +kernel
theorem dX12_readUnit_21 : decode cX12_readUnit 21 = .ok (.iadd, 1) := by decide +kernel
theorem dX12_readUnit_22 : decode cX12_readUnit 22 = .ok (.invokevirtual 172, 3) := by decide +kernel
theorem dX12_readUnit_25 : decode cX12_readUnit 25 = .ok (.aload_n 0, 1) := by decide +kernel
theorem dX12_readUnit_26 : decode cX12_readUnit 26 = .ok (.sipush 3006, 3) := by decide +kernel
theorem dX12_readUnit_29 : decode cX12_readUnit 29 = .ok (.invokevirtual 145, 3) := by decide +kernel
theorem dX12_readUnit_32 : decode cX12_readUnit 32 = .ok (.return_, 1) := by decide +kernel
theorem dX12_readUnit_33 : decode cX12_readUnit 33 = .ok (.aload_n 0, 1) := by decide +kernel
theorem dX12_readUnit_34 : decode cX12_readUnit 34 = .ok (.bipush 37, 2) := by decide +kernel
theorem dX12_readUnit_36 : decode cX12_readUnit 36 = .ok (.invokevirtual 128, 3) := by decide +kernel
theorem dX12_readUnit_39 : decode cX12_readUnit 39 = .ok (.ifCond .eq 34, 3) := by decide +kernel
theorem dX12_readUnit_42 : decode cX12_readUnit 42 = .ok (.aload_n 0, 1) := by decide +kernel
theorem dX12_readUnit_43 : decode cX12_readUnit 43 = .ok (.iload_n 1, 1) := by decide +kernel
theorem dX12_readUnit_44 : decode cX12_readUnit 44 = .ok (.invokevirtual 151, 3) := by decide +kernel
theorem dX12_readUnit_47 : decode cX12_readUnit 47 = .ok (.ifCond .ne 4, 3) := by decide +kernel
theorem dX12_readUnit_50 : decode cX12_readUnit 50 = .ok (.return_, 1) := by decide +kernel
theorem dX12_readUnit_51 : decode cX12_readUnit 51 = .ok (.aload_n 0, 1) := by decide +kernel
theorem dX12_readUnit_52 : decode cX12_readUnit 52 = .ok (.iload_n 1, 1) := by decide +kernel
theorem dX12_readUnit_53 : decode cX12_readUnit 53 = .ok (.iconst 1, 1) := by decide +kernel
theorem dX12_readUnit_54 : decode cX12_readUnit 54 = .ok (.iadd, 1) := by decide +kernel
theorem dX12_readUnit_55 : decode cX12_readUnit 55 = .ok (.invokevirtual 163, 3) := by decide +kernel
theorem dX12_readUnit_58 : decode cX12_readUnit 58 = .ok (.aload_n 0, 1) := by decide +kernel
theorem dX12_readUnit_59 : decode cX12_readUnit 59 = .ok (.bipush 38, 2) := by decide +kernel
theorem dX12_readUnit_61 : decode cX12_readUnit 61 = .ok (.invokevirtual 157, 3) := by decide +kernel
theorem dX12_readUnit_64 : decode cX12_readUnit 64 = .ok (.ifCond .ne 8, 3) := by decide +kernel
theorem dX12_readUnit_67 : decode cX12_readUnit 67 = .ok (.aload_n 0, 1) := by decide +kernel
theorem dX12_readUnit_68 : decode cX12_readUnit 68 = .ok (.iconst 2, 1) := by decide +kernel
theorem dX12_readUnit_69 : decode cX12_readUnit 69 = .ok (.invokevirtual 134, 3) := by decide +kernel
theorem dX12_readUnit_72 : decode cX12_readUnit 72 = .ok (.return_, 1) := by decide +kernel
theorem dX12_readUnit_73 : decode cX12_readUnit 73 = .ok (.aload_n 0, 1) := by decide +kernel
theorem dX12_readUnit_74 : decode cX12_readUnit 74 = .ok (.iload_n 1, 1) := by decide +kernel
theorem dX12_readUnit_75 : decode cX12_readUnit 75 = .ok (.invokevirtual 154, 3) := by decide +kernel
theorem dX12_readUnit_78 : decode cX12_readUnit 78 = .ok (.aload_n 0, 1) := by decide +kernel
theorem dX12_readUnit_79 : decode cX12_readUnit 79 = .ok (.bipush 39, 2) := by decide +kernel
theorem dX12_readUnit_81 : decode cX12_readUnit 81 = .ok (.invokevirtual 128, 3) := by decide +kernel
theorem dX12_readUnit_84 : decode cX12_readUnit 84 = .ok (.ifCond .eq 9, 3) := by decide +kernel
theorem dX12_readUnit_87 : decode cX12_readUnit 87 = .ok (.sipush 3003, 3) := by decide +kernel
theorem dX12_readUnit_90 : decode cX12_readUnit 90 = .ok (.goto 21, 3) := by decide +kernel
theorem dX12_readUnit_93 : decode cX12_readUnit 93 = .ok (.aload_n 0, 1) := by decide +kernel
theorem dX12_readUnit_94 : decode cX12_readUnit 94 = .ok (.bipush 40, 2) := by decide +kernel
theorem dX12_readUnit_96 : decode cX12_readUnit 96 = .ok (.invokevirtual 128, 3) := by decide +kernel
theorem dX12_readUnit_99 : decode cX12_readUnit 99 = .ok (.ifCond .eq 9, 3) := by decide +kernel
theorem dX12_readUnit_102 : decode cX12_readUnit 102 = .ok (.sipush 3004, 3) := by decide +kernel
theorem dX12_readUnit_105 : decode cX12_readUnit 105 = .ok (.goto 6, 3) := by decide +kernel
theorem dX12_readUnit_108 : decode cX12_readUnit 108 = .ok (.sipush 3005, 3) := by decide +kernel
theorem dX12_readUnit_111 : decode cX12_readUnit 111 = .ok (.istore_n 2, 1) := by decide +kernel
theorem dX12_readUnit_112 : decode cX12_readUnit 112 = .ok (.aload_n 0, 1) := by decide +kernel
theorem dX12_readUnit_113 : decode cX12_readUnit 113 = .ok (.bipush 39, 2) := by decide +kernel
theorem dX12_readUnit_115 : decode cX12_readUnit 115 = .ok (.invokevirtual 128, 3) := by decide +kernel
theorem dX12_readUnit_118 : decode cX12_readUnit 118 = .ok (.ifCond .ne 21, 3) := by decide +kernel
theorem dX12_readUnit_121 : decode cX12_readUnit 121 = .ok (.aload_n 0, 1) := by decide +kernel
theorem dX12_readUnit_122 : decode cX12_readUnit 122 = .ok (.bipush 40, 2) := by decide +kernel
theorem dX12_readUnit_124 : decode cX12_readUnit 124 = .ok (.invokevirtual 128, 3) := by decide +kernel
theorem dX12_readUnit_127 : decode cX12_readUnit 127 = .ok (.ifCond .ne 12, 3) := by decide +kernel
theorem dX12_readUnit_130 : decode cX12_readUnit 130 = .ok (.aload_n 0, 1) := by decide +kernel
theorem dX12_readUnit_131 : decode cX12_readUnit 131 = .ok (.bipush 41, 2) := by decide +kernel
theorem dX12_readUnit_133 : decode cX12_readUnit 133 = .ok (.invokevirtual 128, 3) := by decide +kernel
theorem dX12_readUnit_136 : decode cX12_readUnit 136 = .ok (.ifCond .eq 10, 3) := by decide +kernel
theorem dX12_readUnit_139 : decode cX12_readUnit 139 = .ok (.aload_n 0, 1) := by decide +kernel
theorem dX12_readUnit_140 : decode cX12_readUnit 140 = .ok (.invokevirtual 131, 3) := by decide +kernel
theorem dX12_readUnit_143 : decode cX12_readUnit 143 = .ok (.goto 8, 3) := by decide +kernel
theorem dX12_readUnit_146 : decode cX12_readUnit 146 = .ok (.aload_n 0, 1) := by decide +kernel
theorem dX12_readUnit_147 : decode cX12_readUnit 147 = .ok (.iconst 2, 1) := by decide +kernel
theorem dX12_readUnit_148 : decode cX12_readUnit 148 = .ok (.invokevirtual 134, 3) := by decide +kernel
theorem dX12_readUnit_151 : decode cX12_readUnit 151 = .ok (.aload_n 0, 1) := by decide +kernel
theorem dX12_readUnit_152 : decode cX12_readUnit 152 = .ok (.iload_n 1, 1) := by decide +kernel
theorem dX12_readUnit_153 : decode cX12_readUnit 153 = .ok (.invokevirtual 154, 3) := by decide +kernel
theorem dX12_readUnit_156 : decode cX12_readUnit 156 = .ok (.aload_n 0, 1) := by decide +kernel
theorem dX12_readUnit_157 : decode cX12_readUnit 157 = .ok (.iload_n 2, 1) := by decide +kernel
theorem dX12_readUnit_158 : decode cX12_readUnit 158 = .ok (.invokevirtual 145, 3) := by decide +kernel
theorem dX12_readUnit_161 : decode cX12_readUnit 161 = .ok (.return_, 1) := by decide +kernel
theorem dX12_readBoth_0 : decode cX12_readBoth 0 = .ok (.aload_n 0, 1) := by decide +kernel
theorem dX12_readBoth_1 : decode cX12_readBoth 1 = .ok (.iload_n 1, 1) := by decide +kernel
theorem dX12_readBoth_2 : decode cX12_readBoth 2 = .ok (.invokevirtual 172, 3) := by decide +kernel
theorem dX12_readBoth_5 : decode cX12_readBoth 5 = .ok (.aload_n 0, 1) := by decide +kernel
theorem dX12_readBoth_6 : decode cX12_readBoth 6 = .ok (.bipush 18, 2) := by decide +kernel
theorem dX12_readBoth_8 : decode cX12_readBoth 8 = .ok (.invokevirtual 157, 3) := by decide +kernel
theorem dX12_readBoth_11 : decode cX12_readBoth 11 = .ok (.ifCond .eq 18, 3) := by decide +kernel
theorem dX12_readBoth_14 : decode cX12_readBoth 14 = .ok (.aload_n 0, 1) := by decide +kernel
theorem dX12_readBoth_15 : decode cX12_readBoth 15 = .ok (.iload_n 1, 1) := by decide +kernel
theorem dX12_readBoth_16 : decode cX12_readBoth 16 = .ok (.invokevirtual 172, 3) := by decide +kernel
theorem dX12_readBoth_19 : decode cX12_readBoth 19 = .ok (.aload_n 0, 1) := by decide +kernel
theorem dX12_readBoth_20 : decode cX12_readBoth 20 = .ok (.sipush 3007, 3) := by decide +kernel
theorem dX12_readBoth_23 : decode cX12_readBoth 23 = .ok (.invokevirtual 145, 3) := by decide +kernel
theorem dX12_readBoth_26 : decode cX12_readBoth 26 = .ok (.goto (-21), 3) := by decide +kernel
theorem dX12_readBoth_29 : decode cX12_readBoth 29 = .ok (.return_, 1) := by decide +kernel
theorem dX12_readTruth_0 : decode cX12_readTruth 0 = .ok (.aload_n 0, 1) := by decide +kernel
theorem dX12_readTruth_1 : decode cX12_readTruth 1 = .ok (.iload_n 1, 1) := by decide +kernel
theorem dX12_readTruth_2 : decode cX12_readTruth 2 = .ok (.invokevirtual 175, 3) := by decide +kernel
theorem dX12_readTruth_5 : decode cX12_readTruth 5 = .ok (.aload_n 0, 1) := by decide +kernel
theorem dX12_readTruth_6 : decode cX12_readTruth 6 = .ok (.bipush 19, 2) := by decide +kernel
theorem dX12_readTruth_8 : decode cX12_readTruth 8 = .ok (.invokevirtual 157, 3) := by decide +kernel
theorem dX12_readTruth_11 : decode cX12_readTruth 11 = .ok (.ifCond .eq 18, 3) := by decide +kernel
theorem dX12_readTruth_14 : decode cX12_readTruth 14 = .ok (.aload_n 0, 1) := by decide +kernel
theorem dX12_readTruth_15 : decode cX12_readTruth 15 = .ok (.iload_n 1, 1) := by decide +kernel
theorem dX12_readTruth_16 : decode cX12_readTruth 16 = .ok (.invokevirtual 175, 3) := by decide +kernel
theorem dX12_readTruth_19 : decode cX12_readTruth 19 = .ok (.aload_n 0, 1) := by decide +kernel
theorem dX12_readTruth_20 : decode cX12_readTruth 20 = .ok (.sipush 3008, 3) := by decide +kernel
theorem dX12_readTruth_23 : decode cX12_readTruth 23 = .ok (.invokevirtual 145, 3) := by decide +kernel
theorem dX12_readTruth_26 : decode cX12_readTruth 26 = .ok (.goto (-21), 3) := by decide +kernel
theorem dX12_readTruth_29 : decode cX12_readTruth 29 = .ok (.return_, 1) := by decide +kernel
theorem dX12_readFact_0 : decode cX12_readFact 0 = .ok (.aload_n 0, 1) := by decide +kernel
theorem dX12_readFact_1 : decode cX12_readFact 1 = .ok (.getfield 24, 3) := by decide +kernel
theorem dX12_readFact_4 : decode cX12_readFact 4 = .ok (.iconst 1, 1) := by decide +kernel
theorem dX12_readFact_5 : decode cX12_readFact 5 = .ok (.iaload, 1) := by decide +kernel
theorem dX12_readFact_6 : decode cX12_readFact 6 = .ok (.istore_n 1, 1) := by decide +kernel
theorem dX12_readFact_7 : decode cX12_readFact 7 = .ok (.iload_n 1, 1) := by decide +kernel
theorem dX12_readFact_8 : decode cX12_readFact 8 = .ok (.iconst 4, 1) := by decide +kernel
theorem dX12_readFact_9 : decode cX12_readFact 9 = .ok (.if_icmp .ne 8, 3) := by decide +kernel
theorem dX12_readFact_12 : decode cX12_readFact 12 = .ok (.aload_n 0, 1) := by decide +kernel
theorem dX12_readFact_13 : decode cX12_readFact 13 = .ok (.iconst 4, 1) := by decide +kernel
theorem dX12_readFact_14 : decode cX12_readFact 14 = .ok (.invokevirtual 134, 3) := by decide +kernel
theorem dX12_readFact_17 : decode cX12_readFact 17 = .ok (.aload_n 0, 1) := by decide +kernel
theorem dX12_readFact_18 : decode cX12_readFact 18 = .ok (.getfield 122, 3) := by decide +kernel
theorem dX12_readFact_21 : decode cX12_readFact 21 = .ok (.ifCond .eq 4, 3) := by decide +kernel
theorem dX12_readFact_24 : decode cX12_readFact 24 = .ok (.return_, 1) := by decide +kernel
theorem dX12_readFact_25 : decode cX12_readFact 25 = .ok (.aload_n 0, 1) := by decide +kernel
theorem dX12_readFact_26 : decode cX12_readFact 26 = .ok (.invokevirtual 131, 3) := by decide +kernel
theorem dX12_readFact_29 : decode cX12_readFact 29 = .ok (.aload_n 0, 1) := by decide +kernel
theorem dX12_readFact_30 : decode cX12_readFact 30 = .ok (.getfield 122, 3) := by decide +kernel
theorem dX12_readFact_33 : decode cX12_readFact 33 = .ok (.ifCond .ne 30, 3) := by decide +kernel
theorem dX12_readFact_36 : decode cX12_readFact 36 = .ok (.aload_n 0, 1) := by decide +kernel
theorem dX12_readFact_37 : decode cX12_readFact 37 = .ok (.iconst 2, 1) := by decide +kernel
theorem dX12_readFact_38 : decode cX12_readFact 38 = .ok (.invokevirtual 157, 3) := by decide +kernel
theorem dX12_readFact_41 : decode cX12_readFact 41 = .ok (.ifCond .eq 22, 3) := by decide +kernel
theorem dX12_readFact_44 : decode cX12_readFact 44 = .ok (.aload_n 0, 1) := by decide +kernel
theorem dX12_readFact_45 : decode cX12_readFact 45 = .ok (.getfield 24, 3) := by decide +kernel
theorem dX12_readFact_48 : decode cX12_readFact 48 = .ok (.bipush 9, 2) := by decide +kernel
theorem dX12_readFact_50 : decode cX12_readFact 50 = .ok (.iload_n 1, 1) := by decide +kernel
theorem dX12_readFact_51 : decode cX12_readFact 51 = .ok (.iadd, 1) := by decide +kernel
theorem dX12_readFact_52 : decode cX12_readFact 52 = .ok (.aload_n 0, 1) := by decide +kernel
theorem dX12_readFact_53 : decode cX12_readFact 53 = .ok (.iconst 0, 1) := by decide +kernel
theorem dX12_readFact_54 : decode cX12_readFact 54 = .ok (.bipush 9, 2) := by decide +kernel
theorem dX12_readFact_56 : decode cX12_readFact 56 = .ok (.invokevirtual 178, 3) := by decide +kernel
theorem dX12_readFact_59 : decode cX12_readFact 59 = .ok (.iastore, 1) := by decide +kernel
theorem dX12_readFact_60 : decode cX12_readFact 60 = .ok (.goto (-31), 3) := by decide +kernel
theorem dX12_readFact_63 : decode cX12_readFact 63 = .ok (.aload_n 0, 1) := by decide +kernel
theorem dX12_readFact_64 : decode cX12_readFact 64 = .ok (.getfield 122, 3) := by decide +kernel
theorem dX12_readFact_67 : decode cX12_readFact 67 = .ok (.ifCond .ne 13, 3) := by decide +kernel
theorem dX12_readFact_70 : decode cX12_readFact 70 = .ok (.aload_n 0, 1) := by decide +kernel
theorem dX12_readFact_71 : decode cX12_readFact 71 = .ok (.getfield 24, 3) := by decide +kernel
theorem dX12_readFact_74 : decode cX12_readFact 74 = .ok (.iconst 1, 1) := by decide +kernel
theorem dX12_readFact_75 : decode cX12_readFact 75 = .ok (.dup2, 1) := by decide +kernel
theorem dX12_readFact_76 : decode cX12_readFact 76 = .ok (.iaload, 1) := by decide +kernel
theorem dX12_readFact_77 : decode cX12_readFact 77 = .ok (.iconst 1, 1) := by decide +kernel
theorem dX12_readFact_78 : decode cX12_readFact 78 = .ok (.iadd, 1) := by decide +kernel
theorem dX12_readFact_79 : decode cX12_readFact 79 = .ok (.iastore, 1) := by decide +kernel
theorem dX12_readFact_80 : decode cX12_readFact 80 = .ok (.return_, 1) := by decide +kernel
theorem dX12_readNeed_0 : decode cX12_readNeed 0 = .ok (.aload_n 0, 1) := by decide +kernel
theorem dX12_readNeed_1 : decode cX12_readNeed 1 = .ok (.bipush 6, 2) := by decide +kernel
theorem dX12_readNeed_3 : decode cX12_readNeed 3 = .ok (.invokevirtual 128, 3) := by decide +kernel
theorem dX12_readNeed_6 : decode cX12_readNeed 6 = .ok (.istore_n 2, 1) := by decide +kernel
theorem dX12_readNeed_7 : decode cX12_readNeed 7 = .ok (.iload_n 2, 1) := by decide +kernel
theorem dX12_readNeed_8 : decode cX12_readNeed 8 = .ok (.ifCond .ne 13, 3) := by decide +kernel
theorem dX12_readNeed_11 : decode cX12_readNeed 11 = .ok (.aload_n 0, 1) := by decide +kernel
theorem dX12_readNeed_12 : decode cX12_readNeed 12 = .ok (.iconst 4, 1) := by decide +kernel
theorem dX12_readNeed_13 : decode cX12_readNeed 13 = .ok (.invokevirtual 128, 3) := by decide +kernel
theorem dX12_readNeed_16 : decode cX12_readNeed 16 = .ok (.ifCond .ne 5, 3) := by decide +kernel
theorem dX12_readNeed_19 : decode cX12_readNeed 19 = .ok (.iconst 0, 1) := by decide +kernel
theorem dX12_readNeed_20 : decode cX12_readNeed 20 = .ok (.ireturn, 1) := by decide +kernel
theorem dX12_readNeed_21 : decode cX12_readNeed 21 = .ok (.aload_n 0, 1) := by decide +kernel
theorem dX12_readNeed_22 : decode cX12_readNeed 22 = .ok (.invokevirtual 131, 3) := by decide +kernel
theorem dX12_readNeed_25 : decode cX12_readNeed 25 = .ok (.aload_n 0, 1) := by decide +kernel
theorem dX12_readNeed_26 : decode cX12_readNeed 26 = .ok (.iconst 0, 1) := by decide +kernel
theorem dX12_readNeed_27 : decode cX12_readNeed 27 = .ok (.aload_n 0, 1) := by decide +kernel
theorem dX12_readNeed_28 : decode cX12_readNeed 28 = .ok (.getfield 24, 3) := by decide +kernel
theorem dX12_readNeed_31 : decode cX12_readNeed 31 = .ok (.iconst 1, 1) := by decide +kernel
theorem dX12_readNeed_32 : decode cX12_readNeed 32 = .ok (.iaload, 1) := by decide +kernel
theorem dX12_readNeed_33 : decode cX12_readNeed 33 = .ok (.iconst 1, 1) := by decide +kernel
theorem dX12_readNeed_34 : decode cX12_readNeed 34 = .ok (.isub, 1) := by decide +kernel
theorem dX12_readNeed_35 : decode cX12_readNeed 35 = .ok (.invokevirtual 178, 3) := by decide +kernel
theorem dX12_readNeed_38 : decode cX12_readNeed 38 = .ok (.istore_n 3, 1) := by decide +kernel
theorem dX12_readNeed_39 : decode cX12_readNeed 39 = .ok (.iconst 0, 1) := by decide +kernel
theorem dX12_readNeed_40 : decode cX12_readNeed 40 = .ok (.istore 4, 2) := by decide +kernel
theorem dX12_readNeed_42 : decode cX12_readNeed 42 = .ok (.iload_n 2, 1) := by decide +kernel
theorem dX12_readNeed_43 : decode cX12_readNeed 43 = .ok (.ifCond .ne 24, 3) := by decide +kernel
theorem dX12_readNeed_46 : decode cX12_readNeed 46 = .ok (.aload_n 0, 1) := by decide +kernel
theorem dX12_readNeed_47 : decode cX12_readNeed 47 = .ok (.iconst 5, 1) := by decide +kernel
theorem dX12_readNeed_48 : decode cX12_readNeed 48 = .ok (.invokevirtual 157, 3) := by decide +kernel
theorem dX12_readNeed_51 : decode cX12_readNeed 51 = .ok (.ifCond .ne 8, 3) := by decide +kernel
theorem dX12_readNeed_54 : decode cX12_readNeed 54 = .ok (.aload_n 0, 1) := by decide +kernel
theorem dX12_readNeed_55 : decode cX12_readNeed 55 = .ok (.iconst 2, 1) := by decide +kernel
theorem dX12_readNeed_56 : decode cX12_readNeed 56 = .ok (.invokevirtual 134, 3) := by decide +kernel
theorem dX12_readNeed_59 : decode cX12_readNeed 59 = .ok (.aload_n 0, 1) := by decide +kernel
theorem dX12_readNeed_60 : decode cX12_readNeed 60 = .ok (.iconst 1, 1) := by decide +kernel
theorem dX12_readNeed_61 : decode cX12_readNeed 61 = .ok (.iconst 3, 1) := by decide +kernel
theorem dX12_readNeed_62 : decode cX12_readNeed 62 = .ok (.invokevirtual 178, 3) := by decide +kernel
theorem dX12_readNeed_65 : decode cX12_readNeed 65 = .ok (.istore 4, 2) := by decide +kernel
theorem dX12_readNeed_67 : decode cX12_readNeed 67 = .ok (.aload_n 0, 1) := by decide +kernel
theorem dX12_readNeed_68 : decode cX12_readNeed 68 = .ok (.getfield 122, 3) := by decide +kernel
theorem dX12_readNeed_71 : decode cX12_readNeed 71 = .ok (.ifCond .eq 5, 3) := by decide +kernel
theorem dX12_readNeed_74 : decode cX12_readNeed 74 = .ok (.iconst 0, 1) := by decide +kernel
theorem dX12_readNeed_75 : decode cX12_readNeed 75 = .ok (.ireturn, 1) := by decide +kernel
theorem dX12_readNeed_76 : decode cX12_readNeed 76 = .ok (.aload_n 0, 1) := by decide +kernel
theorem dX12_readNeed_77 : decode cX12_readNeed 77 = .ok (.getfield 24, 3) := by decide +kernel
theorem dX12_readNeed_80 : decode cX12_readNeed 80 = .ok (.bipush 13, 2) := by decide +kernel
theorem dX12_readNeed_82 : decode cX12_readNeed 82 = .ok (.iconst 4, 1) := by decide +kernel
theorem dX12_readNeed_83 : decode cX12_readNeed 83 = .ok (.iload_n 1, 1) := by decide +kernel
theorem dX12_readNeed_84 : decode cX12_readNeed 84 = .ok (.imul, 1) := by decide +kernel
theorem dX12_readNeed_85 : decode cX12_readNeed 85 = .ok (.iadd, 1) := by decide +kernel
theorem dX12_readNeed_86 : decode cX12_readNeed 86 = .ok (.iload_n 3, 1) := by decide +kernel
theorem dX12_readNeed_87 : decode cX12_readNeed 87 = .ok (.iadd, 1) := by decide +kernel
theorem dX12_readNeed_88 : decode cX12_readNeed 88 = .ok (.iload 4, 2) := by decide +kernel
theorem dX12_readNeed_90 : decode cX12_readNeed 90 = .ok (.iastore, 1) := by decide +kernel
theorem dX12_readNeed_91 : decode cX12_readNeed 91 = .ok (.aload_n 0, 1) := by decide +kernel
theorem dX12_readNeed_92 : decode cX12_readNeed 92 = .ok (.getfield 24, 3) := by decide +kernel
theorem dX12_readNeed_95 : decode cX12_readNeed 95 = .ok (.bipush 37, 2) := by decide +kernel
theorem dX12_readNeed_97 : decode cX12_readNeed 97 = .ok (.iload_n 1, 1) := by decide +kernel
theorem dX12_readNeed_98 : decode cX12_readNeed 98 = .ok (.iadd, 1) := by decide +kernel
theorem dX12_readNeed_99 : decode cX12_readNeed 99 = .ok (.iload_n 2, 1) := by decide +kernel
theorem dX12_readNeed_100 : decode cX12_readNeed 100 = .ok (.ifCond .eq 19, 3) := by decide +kernel
theorem dX12_readNeed_103 : decode cX12_readNeed 103 = .ok (.aload_n 0, 1) := by decide +kernel
theorem dX12_readNeed_104 : decode cX12_readNeed 104 = .ok (.getfield 24, 3) := by decide +kernel
theorem dX12_readNeed_107 : decode cX12_readNeed 107 = .ok (.bipush 37, 2) := by decide +kernel
theorem dX12_readNeed_109 : decode cX12_readNeed 109 = .ok (.iload_n 1, 1) := by decide +kernel
theorem dX12_readNeed_110 : decode cX12_readNeed 110 = .ok (.iadd, 1) := by decide +kernel
theorem dX12_readNeed_111 : decode cX12_readNeed 111 = .ok (.iaload, 1) := by decide +kernel
theorem dX12_readNeed_112 : decode cX12_readNeed 112 = .ok (.iconst 1, 1) := by decide +kernel
theorem dX12_readNeed_113 : decode cX12_readNeed 113 = .ok (.iload_n 3, 1) := by decide +kernel
theorem dX12_readNeed_114 : decode cX12_readNeed 114 = .ok (.ishl, 1) := by decide +kernel
theorem dX12_readNeed_115 : decode cX12_readNeed 115 = .ok (.ior, 1) := by decide +kernel
theorem dX12_readNeed_116 : decode cX12_readNeed 116 = .ok (.goto 18, 3) := by decide +kernel
theorem dX12_readNeed_119 : decode cX12_readNeed 119 = .ok (.aload_n 0, 1) := by decide +kernel
theorem dX12_readNeed_120 : decode cX12_readNeed 120 = .ok (.getfield 24, 3) := by decide +kernel
theorem dX12_readNeed_123 : decode cX12_readNeed 123 = .ok (.bipush 37, 2) := by decide +kernel
theorem dX12_readNeed_125 : decode cX12_readNeed 125 = .ok (.iload_n 1, 1) := by decide +kernel
theorem dX12_readNeed_126 : decode cX12_readNeed 126 = .ok (.iadd, 1) := by decide +kernel
theorem dX12_readNeed_127 : decode cX12_readNeed 127 = .ok (.iaload, 1) := by decide +kernel
theorem dX12_readNeed_128 : decode cX12_readNeed 128 = .ok (.iconst 1, 1) := by decide +kernel
theorem dX12_readNeed_129 : decode cX12_readNeed 129 = .ok (.iload_n 3, 1) := by decide +kernel
theorem dX12_readNeed_130 : decode cX12_readNeed 130 = .ok (.ishl, 1) := by decide +kernel
theorem dX12_readNeed_131 : decode cX12_readNeed 131 = .ok (.iconst (-1), 1) := by decide +kernel
theorem dX12_readNeed_132 : decode cX12_readNeed 132 = .ok (.ixor, 1) := by decide +kernel
theorem dX12_readNeed_133 : decode cX12_readNeed 133 = .ok (.iand, 1) := by decide +kernel
theorem dX12_readNeed_134 : decode cX12_readNeed 134 = .ok (.iastore, 1) := by decide +kernel
theorem dX12_readNeed_135 : decode cX12_readNeed 135 = .ok (.iconst 1, 1) := by decide +kernel
theorem dX12_readNeed_136 : decode cX12_readNeed 136 = .ok (.ireturn, 1) := by decide +kernel
theorem dX12_readDoing_0 : decode cX12_readDoing 0 = .ok (.aload_n 0, 1) := by decide +kernel
theorem dX12_readDoing_1 : decode cX12_readDoing 1 = .ok (.getfield 24, 3) := by decide +kernel
theorem dX12_readDoing_4 : decode cX12_readDoing 4 = .ok (.iconst 2, 1) := by decide +kernel
theorem dX12_readDoing_5 : decode cX12_readDoing 5 = .ok (.iaload, 1) := by decide +kernel
theorem dX12_readDoing_6 : decode cX12_readDoing 6 = .ok (.istore_n 1, 1) := by decide +kernel
theorem dX12_readDoing_7 : decode cX12_readDoing 7 = .ok (.iload_n 1, 1) := by decide +kernel
theorem dX12_readDoing_8 : decode cX12_readDoing 8 = .ok (.bipush 6, 2) := by decide +kernel
theorem dX12_readDoing_10 : decode cX12_readDoing 10 = .ok (.if_icmp .ne 8, 3) := by decide +kernel
theorem dX12_readDoing_13 : decode cX12_readDoing 13 = .ok (.aload_n 0, 1) := by decide +kernel
theorem dX12_readDoing_14 : decode cX12_readDoing 14 = .ok (.iconst 4, 1) := by decide +kernel
theorem dX12_readDoing_15 : decode cX12_readDoing 15 = .ok (.invokevirtual 134, 3) := by decide +kernel
theorem dX12_readDoing_18 : decode cX12_readDoing 18 = .ok (.aload_n 0, 1) := by decide +kernel
theorem dX12_readDoing_19 : decode cX12_readDoing 19 = .ok (.getfield 122, 3) := by decide +kernel
theorem dX12_readDoing_22 : decode cX12_readDoing 22 = .ok (.ifCond .eq 4, 3) := by decide +kernel
theorem dX12_readDoing_25 : decode cX12_readDoing 25 = .ok (.return_, 1) := by decide +kernel
theorem dX12_readDoing_26 : decode cX12_readDoing 26 = .ok (.aload_n 0, 1) := by decide +kernel
theorem dX12_readDoing_27 : decode cX12_readDoing 27 = .ok (.invokevirtual 131, 3) := by decide +kernel
theorem dX12_readDoing_30 : decode cX12_readDoing 30 = .ok (.aload_n 0, 1) := by decide +kernel
theorem dX12_readDoing_31 : decode cX12_readDoing 31 = .ok (.getfield 122, 3) := by decide +kernel
theorem dX12_readDoing_34 : decode cX12_readDoing 34 = .ok (.ifCond .ne 14, 3) := by decide +kernel
theorem dX12_readDoing_37 : decode cX12_readDoing 37 = .ok (.aload_n 0, 1) := by decide +kernel
theorem dX12_readDoing_38 : decode cX12_readDoing 38 = .ok (.iload_n 1, 1) := by decide +kernel
theorem dX12_readDoing_39 : decode cX12_readDoing 39 = .ok (.invokevirtual 182, 3) := by decide +kernel
theorem dX12_readDoing_42 : decode cX12_readDoing 42 = .ok (.ifCond .eq 6, 3) := by decide +kernel
theorem dX12_readDoing_45 : decode cX12_readDoing 45 = .ok (.goto (-15), 3) := by decide +kernel
theorem dX12_readDoing_48 : decode cX12_readDoing 48 = .ok (.aload_n 0, 1) := by decide +kernel
theorem dX12_readDoing_49 : decode cX12_readDoing 49 = .ok (.getfield 122, 3) := by decide +kernel
theorem dX12_readDoing_52 : decode cX12_readDoing 52 = .ok (.ifCond .ne 13, 3) := by decide +kernel
theorem dX12_readDoing_55 : decode cX12_readDoing 55 = .ok (.aload_n 0, 1) := by decide +kernel
theorem dX12_readDoing_56 : decode cX12_readDoing 56 = .ok (.getfield 24, 3) := by decide +kernel
theorem dX12_readDoing_59 : decode cX12_readDoing 59 = .ok (.iconst 2, 1) := by decide +kernel
theorem dX12_readDoing_60 : decode cX12_readDoing 60 = .ok (.dup2, 1) := by decide +kernel
theorem dX12_readDoing_61 : decode cX12_readDoing 61 = .ok (.iaload, 1) := by decide +kernel
theorem dX12_readDoing_62 : decode cX12_readDoing 62 = .ok (.iconst 1, 1) := by decide +kernel
theorem dX12_readDoing_63 : decode cX12_readDoing 63 = .ok (.iadd, 1) := by decide +kernel
theorem dX12_readDoing_64 : decode cX12_readDoing 64 = .ok (.iastore, 1) := by decide +kernel
theorem dX12_readDoing_65 : decode cX12_readDoing 65 = .ok (.return_, 1) := by decide +kernel
theorem dX12_readKnows_0 : decode cX12_readKnows 0 = .ok (.aload_n 0, 1) := by decide +kernel
theorem dX12_readKnows_1 : decode cX12_readKnows 1 = .ok (.invokevirtual 131, 3) := by decide +kernel
theorem dX12_readKnows_4 : decode cX12_readKnows 4 = .ok (.aload_n 0, 1) := by decide +kernel
theorem dX12_readKnows_5 : decode cX12_readKnows 5 = .ok (.iconst 0, 1) := by decide +kernel
theorem dX12_readKnows_6 : decode cX12_readKnows 6 = .ok (.iconst 1, 1) := by decide +kernel
theorem dX12_readKnows_7 : decode cX12_readKnows 7 = .ok (.invokevirtual 178, 3) := by decide +kernel
theorem dX12_readKnows_10 : decode cX12_readKnows 10 = .ok (.istore_n 1, 1) := by decide +kernel
theorem dX12_readKnows_11 : decode cX12_readKnows 11 = .ok (.aload_n 0, 1) := by decide +kernel
theorem dX12_readKnows_12 : decode cX12_readKnows 12 = .ok (.iconst 0, 1) := by decide +kernel
theorem dX12_readKnows_13 : decode cX12_readKnows 13 = .ok (.aload_n 0, 1) := by decide +kernel
theorem dX12_readKnows_14 : decode cX12_readKnows 14 = .ok (.getfield 24, 3) := by decide +kernel
theorem dX12_readKnows_17 : decode cX12_readKnows 17 = .ok (.iconst 1, 1) := by decide +kernel
theorem dX12_readKnows_18 : decode cX12_readKnows 18 = .ok (.iaload, 1) := by decide +kernel
theorem dX12_readKnows_19 : decode cX12_readKnows 19 = .ok (.iconst 1, 1) := by decide +kernel
theorem dX12_readKnows_20 : decode cX12_readKnows 20 = .ok (.isub, 1) := by decide +kernel
theorem dX12_readKnows_21 : decode cX12_readKnows 21 = .ok (.invokevirtual 178, 3) := by decide +kernel
theorem dX12_readKnows_24 : decode cX12_readKnows 24 = .ok (.istore_n 2, 1) := by decide +kernel
theorem dX12_readKnows_25 : decode cX12_readKnows 25 = .ok (.aload_n 0, 1) := by decide +kernel
theorem dX12_readKnows_26 : decode cX12_readKnows 26 = .ok (.iconst 0, 1) := by decide +kernel
theorem dX12_readKnows_27 : decode cX12_readKnows 27 = .ok (.iconst 3, 1) := by decide +kernel
theorem dX12_readKnows_28 : decode cX12_readKnows 28 = .ok (.invokevirtual 178, 3) := by decide +kernel
theorem dX12_readKnows_31 : decode cX12_readKnows 31 = .ok (.istore_n 3, 1) := by decide +kernel
theorem dX12_readKnows_32 : decode cX12_readKnows 32 = .ok (.aload_n 0, 1) := by decide +kernel
theorem dX12_readKnows_33 : decode cX12_readKnows 33 = .ok (.getfield 122, 3) := by decide +kernel
theorem dX12_readKnows_36 : decode cX12_readKnows 36 = .ok (.ifCond .ne 17, 3) := by decide +kernel
theorem dX12_readKnows_39 : decode cX12_readKnows 39 = .ok (.aload_n 0, 1) := by decide +kernel
theorem dX12_readKnows_40 : decode cX12_readKnows 40 = .ok (.getfield 24, 3) := by decide +kernel
theorem dX12_readKnows_43 : decode cX12_readKnows 43 = .ok (.bipush 43, 2) := by decide +kernel
theorem dX12_readKnows_45 : decode cX12_readKnows 45 = .ok (.iconst 4, 1) := by decide +kernel
theorem dX12_readKnows_46 : decode cX12_readKnows 46 = .ok (.iload_n 1, 1) := by decide +kernel
theorem dX12_readKnows_47 : decode cX12_readKnows 47 = .ok (.imul, 1) := by decide +kernel
theorem dX12_readKnows_48 : decode cX12_readKnows 48 = .ok (.iadd, 1) := by decide +kernel
theorem dX12_readKnows_49 : decode cX12_readKnows 49 = .ok (.iload_n 2, 1) := by decide +kernel
theorem dX12_readKnows_50 : decode cX12_readKnows 50 = .ok (.iadd, 1) := by decide +kernel
theorem dX12_readKnows_51 : decode cX12_readKnows 51 = .ok (.iload_n 3, 1) := by decide +kernel
theorem dX12_readKnows_52 : decode cX12_readKnows 52 = .ok (.iastore, 1) := by decide +kernel
theorem dX12_readKnows_53 : decode cX12_readKnows 53 = .ok (.return_, 1) := by decide +kernel
theorem dX12_readLaw_0 : decode cX12_readLaw 0 = .ok (.aload_n 0, 1) := by decide +kernel
theorem dX12_readLaw_1 : decode cX12_readLaw 1 = .ok (.invokevirtual 131, 3) := by decide +kernel
theorem dX12_readLaw_4 : decode cX12_readLaw 4 = .ok (.aload_n 0, 1) := by decide +kernel
theorem dX12_readLaw_5 : decode cX12_readLaw 5 = .ok (.bipush 31, 2) := by decide +kernel
theorem dX12_readLaw_7 : decode cX12_readLaw 7 = .ok (.invokevirtual 157, 3) := by decide +kernel
theorem dX12_readLaw_10 : decode cX12_readLaw 10 = .ok (.ifCond .ne 8, 3) := by decide +kernel
theorem dX12_readLaw_13 : decode cX12_readLaw 13 = .ok (.aload_n 0, 1) := by decide +kernel
theorem dX12_readLaw_14 : decode cX12_readLaw 14 = .ok (.iconst 2, 1) := by decide +kernel
theorem dX12_readLaw_15 : decode cX12_readLaw 15 = .ok (.invokevirtual 134, 3) := by decide +kernel
theorem dX12_readLaw_18 : decode cX12_readLaw 18 = .ok (.aload_n 0, 1) := by decide +kernel
theorem dX12_readLaw_19 : decode cX12_readLaw 19 = .ok (.getfield 24, 3) := by decide +kernel
theorem dX12_readLaw_22 : decode cX12_readLaw 22 = .ok (.sipush 143, 3) := by decide +kernel
theorem dX12_readLaw_25 : decode cX12_readLaw 25 = .ok (.iaload, 1) := by decide +kernel
theorem dX12_readLaw_26 : decode cX12_readLaw 26 = .ok (.istore_n 2, 1) := by decide +kernel
theorem dX12_readLaw_27 : decode cX12_readLaw 27 = .ok (.aload_n 0, 1) := by decide +kernel
theorem dX12_readLaw_28 : decode cX12_readLaw 28 = .ok (.iload_n 1, 1) := by decide +kernel
theorem dX12_readLaw_29 : decode cX12_readLaw 29 = .ok (.putfield 142, 3) := by decide +kernel
theorem dX12_readLaw_32 : decode cX12_readLaw 32 = .ok (.iload_n 1, 1) := by decide +kernel
theorem dX12_readLaw_33 : decode cX12_readLaw 33 = .ok (.ifCond .ne 11, 3) := by decide +kernel
theorem dX12_readLaw_36 : decode cX12_readLaw 36 = .ok (.aload_n 0, 1) := by decide +kernel
theorem dX12_readLaw_37 : decode cX12_readLaw 37 = .ok (.iconst 0, 1) := by decide +kernel
theorem dX12_readLaw_38 : decode cX12_readLaw 38 = .ok (.invokevirtual 154, 3) := by decide +kernel
theorem dX12_readLaw_41 : decode cX12_readLaw 41 = .ok (.goto 8, 3) := by decide +kernel
theorem dX12_readLaw_44 : decode cX12_readLaw 44 = .ok (.aload_n 0, 1) := by decide +kernel
theorem dX12_readLaw_45 : decode cX12_readLaw 45 = .ok (.iconst 0, 1) := by decide +kernel
theorem dX12_readLaw_46 : decode cX12_readLaw 46 = .ok (.invokevirtual 163, 3) := by decide +kernel
theorem dX12_readLaw_49 : decode cX12_readLaw 49 = .ok (.aload_n 0, 1) := by decide +kernel
theorem dX12_readLaw_50 : decode cX12_readLaw 50 = .ok (.getfield 122, 3) := by decide +kernel
theorem dX12_readLaw_53 : decode cX12_readLaw 53 = .ok (.ifCond .eq 4, 3) := by decide +kernel
theorem dX12_readLaw_56 : decode cX12_readLaw 56 = .ok (.return_, 1) := by decide +kernel
theorem dX12_readLaw_57 : decode cX12_readLaw 57 = .ok (.aload_n 0, 1) := by decide +kernel
theorem dX12_readLaw_58 : decode cX12_readLaw 58 = .ok (.getfield 24, 3) := by decide +kernel
theorem dX12_readLaw_61 : decode cX12_readLaw 61 = .ok (.iconst 3, 1) := by decide +kernel
theorem dX12_readLaw_62 : decode cX12_readLaw 62 = .ok (.iload_n 1, 1) := by decide +kernel
theorem dX12_readLaw_63 : decode cX12_readLaw 63 = .ok (.iadd, 1) := by decide +kernel
theorem dX12_readLaw_64 : decode cX12_readLaw 64 = .ok (.iconst 1, 1) := by decide +kernel
theorem dX12_readLaw_65 : decode cX12_readLaw 65 = .ok (.iastore, 1) := by decide +kernel
theorem dX12_readLaw_66 : decode cX12_readLaw 66 = .ok (.aload_n 0, 1) := by decide +kernel
theorem dX12_readLaw_67 : decode cX12_readLaw 67 = .ok (.getfield 24, 3) := by decide +kernel
theorem dX12_readLaw_70 : decode cX12_readLaw 70 = .ok (.iconst 5, 1) := by decide +kernel
theorem dX12_readLaw_71 : decode cX12_readLaw 71 = .ok (.iload_n 1, 1) := by decide +kernel
theorem dX12_readLaw_72 : decode cX12_readLaw 72 = .ok (.iadd, 1) := by decide +kernel
theorem dX12_readLaw_73 : decode cX12_readLaw 73 = .ok (.iload_n 2, 1) := by decide +kernel
theorem dX12_readLaw_74 : decode cX12_readLaw 74 = .ok (.iastore, 1) := by decide +kernel
theorem dX12_readLaw_75 : decode cX12_readLaw 75 = .ok (.aload_n 0, 1) := by decide +kernel
theorem dX12_readLaw_76 : decode cX12_readLaw 76 = .ok (.getfield 24, 3) := by decide +kernel
theorem dX12_readLaw_79 : decode cX12_readLaw 79 = .ok (.bipush 7, 2) := by decide +kernel
theorem dX12_readLaw_81 : decode cX12_readLaw 81 = .ok (.iload_n 1, 1) := by decide +kernel
theorem dX12_readLaw_82 : decode cX12_readLaw 82 = .ok (.iadd, 1) := by decide +kernel
theorem dX12_readLaw_83 : decode cX12_readLaw 83 = .ok (.aload_n 0, 1) := by decide +kernel
theorem dX12_readLaw_84 : decode cX12_readLaw 84 = .ok (.getfield 24, 3) := by decide +kernel
theorem dX12_readLaw_87 : decode cX12_readLaw 87 = .ok (.sipush 143, 3) := by decide +kernel
theorem dX12_readLaw_90 : decode cX12_readLaw 90 = .ok (.iaload, 1) := by decide +kernel
theorem dX12_readLaw_91 : decode cX12_readLaw 91 = .ok (.iload_n 2, 1) := by decide +kernel
theorem dX12_readLaw_92 : decode cX12_readLaw 92 = .ok (.isub, 1) := by decide +kernel
theorem dX12_readLaw_93 : decode cX12_readLaw 93 = .ok (.iastore, 1) := by decide +kernel
theorem dX12_readLaw_94 : decode cX12_readLaw 94 = .ok (.return_, 1) := by decide +kernel
theorem dX12_readLine_0 : decode cX12_readLine 0 = .ok (.aload_n 0, 1) := by decide +kernel
theorem dX12_readLine_1 : decode cX12_readLine 1 = .ok (.getfield 122, 3) := by decide +kernel
theorem dX12_readLine_4 : decode cX12_readLine 4 = .ok (.ifCond .eq 4, 3) := by decide +kernel
theorem dX12_readLine_7 : decode cX12_readLine 7 = .ok (.return_, 1) := by decide +kernel
theorem dX12_readLine_8 : decode cX12_readLine 8 = .ok (.aload_n 0, 1) := by decide +kernel
theorem dX12_readLine_9 : decode cX12_readLine 9 = .ok (.iconst 1, 1) := by decide +kernel
theorem dX12_readLine_10 : decode cX12_readLine 10 = .ok (.invokevirtual 128, 3) := by decide +kernel
theorem dX12_readLine_13 : decode cX12_readLine 13 = .ok (.ifCond .eq 10, 3) := by decide +kernel
theorem dX12_readLine_16 : decode cX12_readLine 16 = .ok (.aload_n 0, 1) := by decide +kernel
theorem dX12_readLine_17 : decode cX12_readLine 17 = .ok (.invokevirtual 185, 3) := by decide +kernel
theorem dX12_readLine_20 : decode cX12_readLine 20 = .ok (.goto 97, 3) := by decide +kernel
theorem dX12_readLine_23 : decode cX12_readLine 23 = .ok (.aload_n 0, 1) := by decide +kernel
theorem dX12_readLine_24 : decode cX12_readLine 24 = .ok (.iconst 3, 1) := by decide +kernel
theorem dX12_readLine_25 : decode cX12_readLine 25 = .ok (.invokevirtual 128, 3) := by decide +kernel
theorem dX12_readLine_28 : decode cX12_readLine 28 = .ok (.ifCond .eq 10, 3) := by decide +kernel
theorem dX12_readLine_31 : decode cX12_readLine 31 = .ok (.aload_n 0, 1) := by decide +kernel
theorem dX12_readLine_32 : decode cX12_readLine 32 = .ok (.invokevirtual 188, 3) := by decide +kernel
theorem dX12_readLine_35 : decode cX12_readLine 35 = .ok (.goto 82, 3) := by decide +kernel
theorem dX12_readLine_38 : decode cX12_readLine 38 = .ok (.aload_n 0, 1) := by decide +kernel
theorem dX12_readLine_39 : decode cX12_readLine 39 = .ok (.bipush 7, 2) := by decide +kernel
theorem dX12_readLine_41 : decode cX12_readLine 41 = .ok (.invokevirtual 157, 3) := by decide +kernel
theorem dX12_readLine_44 : decode cX12_readLine 44 = .ok (.ifCond .eq 20, 3) := by decide +kernel
theorem dX12_readLine_47 : decode cX12_readLine 47 = .ok (.aload_n 0, 1) := by decide +kernel
theorem dX12_readLine_48 : decode cX12_readLine 48 = .ok (.getfield 24, 3) := by decide +kernel
theorem dX12_readLine_51 : decode cX12_readLine 51 = .ok (.bipush 51, 2) := by decide +kernel
theorem dX12_readLine_53 : decode cX12_readLine 53 = .ok (.aload_n 0, 1) := by decide +kernel
theorem dX12_readLine_54 : decode cX12_readLine 54 = .ok (.iconst 0, 1) := by decide +kernel
theorem dX12_readLine_55 : decode cX12_readLine 55 = .ok (.bipush 9, 2) := by decide +kernel
theorem dX12_readLine_57 : decode cX12_readLine 57 = .ok (.invokevirtual 178, 3) := by decide +kernel
theorem dX12_readLine_60 : decode cX12_readLine 60 = .ok (.iastore, 1) := by decide +kernel
theorem dX12_readLine_61 : decode cX12_readLine 61 = .ok (.goto 56, 3) := by decide +kernel
theorem dX12_readLine_64 : decode cX12_readLine 64 = .ok (.aload_n 0, 1) := by decide +kernel
theorem dX12_readLine_65 : decode cX12_readLine 65 = .ok (.bipush 8, 2) := by decide +kernel
theorem dX12_readLine_67 : decode cX12_readLine 67 = .ok (.invokevirtual 128, 3) := by decide +kernel
theorem dX12_readLine_70 : decode cX12_readLine 70 = .ok (.ifCond .eq 10, 3) := by decide +kernel
theorem dX12_readLine_73 : decode cX12_readLine 73 = .ok (.aload_n 0, 1) := by decide +kernel
theorem dX12_readLine_74 : decode cX12_readLine 74 = .ok (.invokevirtual 191, 3) := by decide +kernel
theorem dX12_readLine_77 : decode cX12_readLine 77 = .ok (.goto 40, 3) := by decide +kernel
theorem dX12_readLine_80 : decode cX12_readLine 80 = .ok (.aload_n 0, 1) := by decide +kernel
theorem dX12_readLine_81 : decode cX12_readLine 81 = .ok (.bipush 9, 2) := by decide +kernel
theorem dX12_readLine_83 : decode cX12_readLine 83 = .ok (.invokevirtual 128, 3) := by decide +kernel
theorem dX12_readLine_86 : decode cX12_readLine 86 = .ok (.ifCond .ne 12, 3) := by decide +kernel
theorem dX12_readLine_89 : decode cX12_readLine 89 = .ok (.aload_n 0, 1) := by decide +kernel
theorem dX12_readLine_90 : decode cX12_readLine 90 = .ok (.bipush 10, 2) := by decide +kernel
theorem dX12_readLine_92 : decode cX12_readLine 92 = .ok (.invokevirtual 128, 3) := by decide +kernel
theorem dX12_readLine_95 : decode cX12_readLine 95 = .ok (.ifCond .eq 17, 3) := by decide +kernel
theorem dX12_readLine_98 : decode cX12_readLine 98 = .ok (.aload_n 0, 1) := by decide +kernel
theorem dX12_readLine_99 : decode cX12_readLine 99 = .ok (.aload_n 0, 1) := by decide +kernel
theorem dX12_readLine_100 : decode cX12_readLine 100 = .ok (.getfield 104, 3) := by decide +kernel
theorem dX12_readLine_103 : decode cX12_readLine 103 = .ok (.bipush 9, 2) := by decide +kernel
theorem dX12_readLine_105 : decode cX12_readLine 105 = .ok (.isub, 1) := by decide +kernel
theorem dX12_readLine_106 : decode cX12_readLine 106 = .ok (.invokevirtual 194, 3) := by decide +kernel
theorem dX12_readLine_109 : decode cX12_readLine 109 = .ok (.goto 8, 3) := by decide +kernel
theorem dX12_readLine_112 : decode cX12_readLine 112 = .ok (.aload_n 0, 1) := by decide +kernel
theorem dX12_readLine_113 : decode cX12_readLine 113 = .ok (.iconst 2, 1) := by decide +kernel
theorem dX12_readLine_114 : decode cX12_readLine 114 = .ok (.invokevirtual 134, 3) := by decide +kernel
theorem dX12_readLine_117 : decode cX12_readLine 117 = .ok (.return_, 1) := by decide +kernel
theorem dX12_ends_0 : decode cX12_ends 0 = .ok (.aload_n 0, 1) := by decide +kernel
theorem dX12_ends_1 : decode cX12_ends 1 = .ok (.bipush 30, 2) := by decide +kernel
theorem dX12_ends_3 : decode cX12_ends 3 = .ok (.invokevirtual 157, 3) := by decide +kernel
theorem dX12_ends_6 : decode cX12_ends 6 = .ok (.ifCond .ne 8, 3) := by decide +kernel
theorem dX12_ends_9 : decode cX12_ends 9 = .ok (.aload_n 0, 1) := by decide +kernel
theorem dX12_ends_10 : decode cX12_ends 10 = .ok (.iconst 2, 1) := by decide +kernel
theorem dX12_ends_11 : decode cX12_ends 11 = .ok (.invokevirtual 134, 3) := by decide +kernel
theorem dX12_ends_14 : decode cX12_ends 14 = .ok (.aload_n 0, 1) := by decide +kernel
theorem dX12_ends_15 : decode cX12_ends 15 = .ok (.getfield 24, 3) := by decide +kernel
theorem dX12_ends_18 : decode cX12_ends 18 = .ok (.iconst 0, 1) := by decide +kernel
theorem dX12_ends_19 : decode cX12_ends 19 = .ok (.dup2, 1) := by decide +kernel
theorem dX12_ends_20 : decode cX12_ends 20 = .ok (.iaload, 1) := by decide +kernel
theorem dX12_ends_21 : decode cX12_ends 21 = .ok (.iconst 1, 1) := by decide +kernel
theorem dX12_ends_22 : decode cX12_ends 22 = .ok (.iadd, 1) := by decide +kernel
theorem dX12_ends_23 : decode cX12_ends 23 = .ok (.iastore, 1) := by decide +kernel
theorem dX12_ends_24 : decode cX12_ends 24 = .ok (.return_, 1) := by decide +kernel
theorem dX12_house_0 : decode cX12_house 0 = .ok (.aload_n 0, 1) := by decide +kernel
theorem dX12_house_1 : decode cX12_house 1 = .ok (.iconst 0, 1) := by decide +kernel
theorem dX12_house_2 : decode cX12_house 2 = .ok (.putfield 1, 3) := by decide +kernel
theorem dX12_house_5 : decode cX12_house 5 = .ok (.iload_n 1, 1) := by decide +kernel
theorem dX12_house_6 : decode cX12_house 6 = .ok (.i2l, 1) := by decide +kernel
theorem dX12_house_7 : decode cX12_house 7 = .ok (.lconst 0, 1) := by decide +kernel
theorem dX12_house_8 : decode cX12_house 8 = .ok (.aload_n 0, 1) := by decide +kernel
theorem dX12_house_9 : decode cX12_house 9 = .ok (.getfield 76, 3) := by decide +kernel
theorem dX12_house_12 : decode cX12_house 12 = .ok (.i2l, 1) := by decide +kernel
theorem dX12_house_13 : decode cX12_house 13 = .ok (.invokestatic 138, 3) := by decide +kernel
theorem dX12_house_16 : decode cX12_house 16 = .ok (.ifCond .ne 6, 3) := by decide +kernel
theorem dX12_house_19 : decode cX12_house 19 = .ok (.bipush (-3), 2) := by decide +kernel
theorem dX12_house_21 : decode cX12_house 21 = .ok (.ireturn, 1) := by decide +kernel
theorem dX12_house_22 : decode cX12_house 22 = .ok (.aload_n 0, 1) := by decide +kernel
theorem dX12_house_23 : decode cX12_house 23 = .ok (.iload_n 1, 1) := by decide +kernel
theorem dX12_house_24 : decode cX12_house 24 = .ok (.putfield 79, 3) := by decide +kernel
theorem dX12_house_27 : decode cX12_house 27 = .ok (.aload_n 0, 1) := by decide +kernel
theorem dX12_house_28 : decode cX12_house 28 = .ok (.iconst 0, 1) := by decide +kernel
theorem dX12_house_29 : decode cX12_house 29 = .ok (.putfield 76, 3) := by decide +kernel
theorem dX12_house_32 : decode cX12_house 32 = .ok (.aload_n 0, 1) := by decide +kernel
theorem dX12_house_33 : decode cX12_house 33 = .ok (.iconst 0, 1) := by decide +kernel
theorem dX12_house_34 : decode cX12_house 34 = .ok (.putfield 97, 3) := by decide +kernel
theorem dX12_house_37 : decode cX12_house 37 = .ok (.aload_n 0, 1) := by decide +kernel
theorem dX12_house_38 : decode cX12_house 38 = .ok (.iconst 0, 1) := by decide +kernel
theorem dX12_house_39 : decode cX12_house 39 = .ok (.putfield 122, 3) := by decide +kernel
theorem dX12_house_42 : decode cX12_house 42 = .ok (.aload_n 0, 1) := by decide +kernel
theorem dX12_house_43 : decode cX12_house 43 = .ok (.getfield 24, 3) := by decide +kernel
theorem dX12_house_46 : decode cX12_house 46 = .ok (.invokestatic 72, 3) := by decide +kernel
theorem dX12_house_49 : decode cX12_house 49 = .ok (.aload_n 0, 1) := by decide +kernel
theorem dX12_house_50 : decode cX12_house 50 = .ok (.invokevirtual 131, 3) := by decide +kernel
theorem dX12_house_53 : decode cX12_house 53 = .ok (.aload_n 0, 1) := by decide +kernel
theorem dX12_house_54 : decode cX12_house 54 = .ok (.iconst 0, 1) := by decide +kernel
theorem dX12_house_55 : decode cX12_house 55 = .ok (.invokevirtual 157, 3) := by decide +kernel
theorem dX12_house_58 : decode cX12_house 58 = .ok (.ifCond .ne 8, 3) := by decide +kernel
theorem dX12_house_61 : decode cX12_house 61 = .ok (.aload_n 0, 1) := by decide +kernel
theorem dX12_house_62 : decode cX12_house 62 = .ok (.iconst 2, 1) := by decide +kernel
theorem dX12_house_63 : decode cX12_house 63 = .ok (.invokevirtual 134, 3) := by decide +kernel
theorem dX12_house_66 : decode cX12_house 66 = .ok (.aload_n 0, 1) := by decide +kernel
theorem dX12_house_67 : decode cX12_house 67 = .ok (.invokevirtual 197, 3) := by decide +kernel
theorem dX12_house_70 : decode cX12_house 70 = .ok (.aload_n 0, 1) := by decide +kernel
theorem dX12_house_71 : decode cX12_house 71 = .ok (.getfield 122, 3) := by decide +kernel
theorem dX12_house_74 : decode cX12_house 74 = .ok (.ifCond .ne 23, 3) := by decide +kernel
theorem dX12_house_77 : decode cX12_house 77 = .ok (.aload_n 0, 1) := by decide +kernel
theorem dX12_house_78 : decode cX12_house 78 = .ok (.getfield 104, 3) := by decide +kernel
theorem dX12_house_81 : decode cX12_house 81 = .ok (.bipush 24, 2) := by decide +kernel
theorem dX12_house_83 : decode cX12_house 83 = .ok (.if_icmp .eq 14, 3) := by decide +kernel
theorem dX12_house_86 : decode cX12_house 86 = .ok (.aload_n 0, 1) := by decide +kernel
theorem dX12_house_87 : decode cX12_house 87 = .ok (.invokevirtual 200, 3) := by decide +kernel
theorem dX12_house_90 : decode cX12_house 90 = .ok (.aload_n 0, 1) := by decide +kernel
theorem dX12_house_91 : decode cX12_house 91 = .ok (.invokevirtual 197, 3) := by decide +kernel
theorem dX12_house_94 : decode cX12_house 94 = .ok (.goto (-24), 3) := by decide +kernel
theorem dX12_house_97 : decode cX12_house 97 = .ok (.aload_n 0, 1) := by decide +kernel
theorem dX12_house_98 : decode cX12_house 98 = .ok (.aload_n 0, 1) := by decide +kernel
theorem dX12_house_99 : decode cX12_house 99 = .ok (.getfield 122, 3) := by decide +kernel
theorem dX12_house_102 : decode cX12_house 102 = .ok (.putfield 203, 3) := by decide +kernel
theorem dX12_house_105 : decode cX12_house 105 = .ok (.aload_n 0, 1) := by decide +kernel
theorem dX12_house_106 : decode cX12_house 106 = .ok (.aload_n 0, 1) := by decide +kernel
theorem dX12_house_107 : decode cX12_house 107 = .ok (.getfield 122, 3) := by decide +kernel
theorem dX12_house_110 : decode cX12_house 110 = .ok (.ifCond .ne 7, 3) := by decide +kernel
theorem dX12_house_113 : decode cX12_house 113 = .ok (.iconst (-1), 1) := by decide +kernel
theorem dX12_house_114 : decode cX12_house 114 = .ok (.goto 7, 3) := by decide +kernel
theorem dX12_house_117 : decode cX12_house 117 = .ok (.aload_n 0, 1) := by decide +kernel
theorem dX12_house_118 : decode cX12_house 118 = .ok (.getfield 125, 3) := by decide +kernel
theorem dX12_house_121 : decode cX12_house 121 = .ok (.putfield 27, 3) := by decide +kernel
theorem dX12_house_124 : decode cX12_house 124 = .ok (.aload_n 0, 1) := by decide +kernel
theorem dX12_house_125 : decode cX12_house 125 = .ok (.getfield 122, 3) := by decide +kernel
theorem dX12_house_128 : decode cX12_house 128 = .ok (.ifCond .eq 11, 3) := by decide +kernel
theorem dX12_house_131 : decode cX12_house 131 = .ok (.bipush (-30), 2) := by decide +kernel
theorem dX12_house_133 : decode cX12_house 133 = .ok (.aload_n 0, 1) := by decide +kernel
theorem dX12_house_134 : decode cX12_house 134 = .ok (.getfield 122, 3) := by decide +kernel
theorem dX12_house_137 : decode cX12_house 137 = .ok (.isub, 1) := by decide +kernel
theorem dX12_house_138 : decode cX12_house 138 = .ok (.ireturn, 1) := by decide +kernel
theorem dX12_house_139 : decode cX12_house 139 = .ok (.iconst 0, 1) := by decide +kernel
theorem dX12_house_140 : decode cX12_house 140 = .ok (.istore_n 2, 1) := by decide +kernel
theorem dX12_house_141 : decode cX12_house 141 = .ok (.iload_n 2, 1) := by decide +kernel
theorem dX12_house_142 : decode cX12_house 142 = .ok (.sipush 1044, 3) := by decide +kernel
theorem dX12_house_145 : decode cX12_house 145 = .ok (.if_icmp .ge 21, 3) := by decide +kernel
theorem dX12_house_148 : decode cX12_house 148 = .ok (.aload_n 0, 1) := by decide +kernel
theorem dX12_house_149 : decode cX12_house 149 = .ok (.getfield 13, 3) := by decide +kernel
theorem dX12_house_152 : decode cX12_house 152 = .ok (.iload_n 2, 1) := by decide +kernel
theorem dX12_house_153 : decode cX12_house 153 = .ok (.aload_n 0, 1) := by decide +kernel
theorem dX12_house_154 : decode cX12_house 154 = .ok (.getfield 24, 3) := by decide +kernel
theorem dX12_house_157 : decode cX12_house 157 = .ok (.iload_n 2, 1) := by decide +kernel
theorem dX12_house_158 : decode cX12_house 158 = .ok (.iaload, 1) := by decide +kernel
theorem dX12_house_159 : decode cX12_house 159 = .ok (.iastore, 1) := by decide +kernel
theorem dX12_house_160 : decode cX12_house 160 = .ok (.iinc 2 1, 3) := by decide +kernel
theorem dX12_house_163 : decode cX12_house 163 = .ok (.goto (-22), 3) := by decide +kernel
theorem dX12_house_166 : decode cX12_house 166 = .ok (.aload_n 0, 1) := by decide +kernel
theorem dX12_house_167 : decode cX12_house 167 = .ok (.getfield 13, 3) := by decide +kernel
theorem dX12_house_170 : decode cX12_house 170 = .ok (.iconst 0, 1) := by decide +kernel
theorem dX12_house_171 : decode cX12_house 171 = .ok (.iaload, 1) := by decide +kernel
theorem dX12_house_172 : decode cX12_house 172 = .ok (.ireturn, 1) := by decide +kernel
theorem dX12_fault_0 : decode cX12_fault 0 = .ok (.aload_n 0, 1) := by decide +kernel
theorem dX12_fault_1 : decode cX12_fault 1 = .ok (.iconst 0, 1) := by decide +kernel
theorem dX12_fault_2 : decode cX12_fault 2 = .ok (.putfield 1, 3) := by decide +kernel
theorem dX12_fault_5 : decode cX12_fault 5 = .ok (.iload_n 1, 1) := by decide +kernel
theorem dX12_fault_6 : decode cX12_fault 6 = .ok (.ifCond .ne 10, 3) := by decide +kernel
theorem dX12_fault_9 : decode cX12_fault 9 = .ok (.aload_n 0, 1) := by decide +kernel
theorem dX12_fault_10 : decode cX12_fault 10 = .ok (.getfield 203, 3) := by decide +kernel
theorem dX12_fault_13 : decode cX12_fault 13 = .ok (.goto 16, 3) := by decide +kernel
theorem dX12_fault_16 : decode cX12_fault 16 = .ok (.iload_n 1, 1) := by decide +kernel
theorem dX12_fault_17 : decode cX12_fault 17 = .ok (.iconst 1, 1) := by decide +kernel
theorem dX12_fault_18 : decode cX12_fault 18 = .ok (.if_icmp .ne 10, 3) := by decide +kernel
theorem dX12_fault_21 : decode cX12_fault 21 = .ok (.aload_n 0, 1) := by decide +kernel
theorem dX12_fault_22 : decode cX12_fault 22 = .ok (.getfield 27, 3) := by decide +kernel
theorem dX12_fault_25 : decode cX12_fault 25 = .ok (.goto 4, 3) := by decide +kernel
theorem dX12_fault_28 : decode cX12_fault 28 = .ok (.iconst (-1), 1) := by decide +kernel
theorem dX12_fault_29 : decode cX12_fault 29 = .ok (.ireturn, 1) := by decide +kernel
theorem dX12_isTwin_0 : decode cX12_isTwin 0 = .ok (.lload_n 0, 1) := by decide +kernel
theorem dX12_isTwin_1 : decode cX12_isTwin 1 = .ok (.lconst 0, 1) := by decide +kernel
theorem dX12_isTwin_2 : decode cX12_isTwin 2 = .ok (.lconst 1, 1) := by decide +kernel
theorem dX12_isTwin_3 : decode cX12_isTwin 3 = .ok (.invokestatic 138, 3) := by decide +kernel
theorem dX12_isTwin_6 : decode cX12_isTwin 6 = .ok (.ireturn, 1) := by decide +kernel
theorem dX12_isFact_0 : decode cX12_isFact 0 = .ok (.lload_n 1, 1) := by decide +kernel
theorem dX12_isFact_1 : decode cX12_isFact 1 = .ok (.lconst 0, 1) := by decide +kernel
theorem dX12_isFact_2 : decode cX12_isFact 2 = .ok (.aload_n 0, 1) := by decide +kernel
theorem dX12_isFact_3 : decode cX12_isFact 3 = .ok (.getfield 13, 3) := by decide +kernel
theorem dX12_isFact_6 : decode cX12_isFact 6 = .ok (.iconst 1, 1) := by decide +kernel
theorem dX12_isFact_7 : decode cX12_isFact 7 = .ok (.iaload, 1) := by decide +kernel
theorem dX12_isFact_8 : decode cX12_isFact 8 = .ok (.iconst 1, 1) := by decide +kernel
theorem dX12_isFact_9 : decode cX12_isFact 9 = .ok (.isub, 1) := by decide +kernel
theorem dX12_isFact_10 : decode cX12_isFact 10 = .ok (.i2l, 1) := by decide +kernel
theorem dX12_isFact_11 : decode cX12_isFact 11 = .ok (.invokestatic 138, 3) := by decide +kernel
theorem dX12_isFact_14 : decode cX12_isFact 14 = .ok (.ireturn, 1) := by decide +kernel
theorem dX12_isDoing_0 : decode cX12_isDoing 0 = .ok (.iload_n 1, 1) := by decide +kernel
theorem dX12_isDoing_1 : decode cX12_isDoing 1 = .ok (.i2l, 1) := by decide +kernel
theorem dX12_isDoing_2 : decode cX12_isDoing 2 = .ok (.lconst 0, 1) := by decide +kernel
theorem dX12_isDoing_3 : decode cX12_isDoing 3 = .ok (.aload_n 0, 1) := by decide +kernel
theorem dX12_isDoing_4 : decode cX12_isDoing 4 = .ok (.getfield 13, 3) := by decide +kernel
theorem dX12_isDoing_7 : decode cX12_isDoing 7 = .ok (.iconst 2, 1) := by decide +kernel
theorem dX12_isDoing_8 : decode cX12_isDoing 8 = .ok (.iaload, 1) := by decide +kernel
theorem dX12_isDoing_9 : decode cX12_isDoing 9 = .ok (.iconst 1, 1) := by decide +kernel
theorem dX12_isDoing_10 : decode cX12_isDoing 10 = .ok (.isub, 1) := by decide +kernel
theorem dX12_isDoing_11 : decode cX12_isDoing 11 = .ok (.i2l, 1) := by decide +kernel
theorem dX12_isDoing_12 : decode cX12_isDoing 12 = .ok (.invokestatic 138, 3) := by decide +kernel
theorem dX12_isDoing_15 : decode cX12_isDoing 15 = .ok (.ireturn, 1) := by decide +kernel
theorem dX12_isSet_0 : decode cX12_isSet 0 = .ok (.iload_n 1, 1) := by decide +kernel
theorem dX12_isSet_1 : decode cX12_isSet 1 = .ok (.ifCond .lt 19, 3) := by decide +kernel
theorem dX12_isSet_4 : decode cX12_isSet 4 = .ok (.iload_n 1, 1) := by decide +kernel
theorem dX12_isSet_5 : decode cX12_isSet 5 = .ok (.iconst 1, 1) := by decide +kernel
theorem dX12_isSet_6 : decode cX12_isSet 6 = .ok (.aload_n 0, 1) := by decide +kernel
theorem dX12_isSet_7 : decode cX12_isSet 7 = .ok (.getfield 13, 3) := by decide +kernel
theorem dX12_isSet_10 : decode cX12_isSet 10 = .ok (.iconst 2, 1) := by decide +kernel
theorem dX12_isSet_11 : decode cX12_isSet 11 = .ok (.iaload, 1) := by decide +kernel
theorem dX12_isSet_12 : decode cX12_isSet 12 = .ok (.ishl, 1) := by decide +kernel
theorem dX12_isSet_13 : decode cX12_isSet 13 = .ok (.if_icmp .ge 7, 3) := by decide +kernel
theorem dX12_isSet_16 : decode cX12_isSet 16 = .ok (.iconst 1, 1) := by decide +kernel
theorem dX12_isSet_17 : decode cX12_isSet 17 = .ok (.goto 4, 3) := by decide +kernel
theorem dX12_isSet_20 : decode cX12_isSet 20 = .ok (.iconst 0, 1) := by decide +kernel
theorem dX12_isSet_21 : decode cX12_isSet 21 = .ok (.ireturn, 1) := by decide +kernel
theorem dX12_bitsOf_0 : decode cX12_bitsOf 0 = .ok (.iconst 0, 1) := by decide +kernel
theorem dX12_bitsOf_1 : decode cX12_bitsOf 1 = .ok (.istore_n 1, 1) := by decide +kernel
theorem dX12_bitsOf_2 : decode cX12_bitsOf 2 = .ok (.iconst 0, 1) := by decide +kernel
theorem dX12_bitsOf_3 : decode cX12_bitsOf 3 = .ok (.istore_n 2, 1) := by decide +kernel
theorem dX12_bitsOf_4 : decode cX12_bitsOf 4 = .ok (.iload_n 2, 1) := by decide +kernel
theorem dX12_bitsOf_5 : decode cX12_bitsOf 5 = .ok (.bipush 10, 2) := by decide +kernel
theorem dX12_bitsOf_7 : decode cX12_bitsOf 7 = .ok (.if_icmp .ge 17, 3) := by decide +kernel
theorem dX12_bitsOf_10 : decode cX12_bitsOf 10 = .ok (.iload_n 1, 1) := by decide +kernel
theorem dX12_bitsOf_11 : decode cX12_bitsOf 11 = .ok (.iload_n 0, 1) := by decide +kernel
theorem dX12_bitsOf_12 : decode cX12_bitsOf 12 = .ok (.iload_n 2, 1) := by decide +kernel
theorem dX12_bitsOf_13 : decode cX12_bitsOf 13 = .ok (.ishr, 1) := by decide +kernel
theorem dX12_bitsOf_14 : decode cX12_bitsOf 14 = .ok (.iconst 1, 1) := by decide +kernel
theorem dX12_bitsOf_15 : decode cX12_bitsOf 15 = .ok (.iand, 1) := by decide +kernel
theorem dX12_bitsOf_16 : decode cX12_bitsOf 16 = .ok (.iadd, 1) := by decide +kernel
theorem dX12_bitsOf_17 : decode cX12_bitsOf 17 = .ok (.istore_n 1, 1) := by decide +kernel
theorem dX12_bitsOf_18 : decode cX12_bitsOf 18 = .ok (.iinc 2 1, 3) := by decide +kernel
theorem dX12_bitsOf_21 : decode cX12_bitsOf 21 = .ok (.goto (-17), 3) := by decide +kernel
theorem dX12_bitsOf_24 : decode cX12_bitsOf 24 = .ok (.iload_n 1, 1) := by decide +kernel
theorem dX12_bitsOf_25 : decode cX12_bitsOf 25 = .ok (.ireturn, 1) := by decide +kernel
theorem dX12_between_0 : decode cX12_between 0 = .ok (.iload_n 0, 1) := by decide +kernel
theorem dX12_between_1 : decode cX12_between 1 = .ok (.tableswitch 80 3003 3008 #[39, 50, 61, 80, 72, 76], 39) := by decide +kernel
theorem dX12_between_40 : decode cX12_between 40 = .ok (.iload_n 1, 1) := by decide +kernel
theorem dX12_between_41 : decode cX12_between 41 = .ok (.iload_n 2, 1) := by decide +kernel
theorem dX12_between_42 : decode cX12_between 42 = .ok (.if_icmp .ne 7, 3) := by decide +kernel
theorem dX12_between_45 : decode cX12_between 45 = .ok (.iconst 1, 1) := by decide +kernel
theorem dX12_between_46 : decode cX12_between 46 = .ok (.goto 4, 3) := by decide +kernel
theorem dX12_between_49 : decode cX12_between 49 = .ok (.iconst 0, 1) := by decide +kernel
theorem dX12_between_50 : decode cX12_between 50 = .ok (.ireturn, 1) := by decide +kernel
theorem dX12_between_51 : decode cX12_between 51 = .ok (.iload_n 1, 1) := by decide +kernel
theorem dX12_between_52 : decode cX12_between 52 = .ok (.iload_n 2, 1) := by decide +kernel
theorem dX12_between_53 : decode cX12_between 53 = .ok (.if_icmp .ge 7, 3) := by decide +kernel
theorem dX12_between_56 : decode cX12_between 56 = .ok (.iconst 1, 1) := by decide +kernel
theorem dX12_between_57 : decode cX12_between 57 = .ok (.goto 4, 3) := by decide +kernel
theorem dX12_between_60 : decode cX12_between 60 = .ok (.iconst 0, 1) := by decide +kernel
theorem dX12_between_61 : decode cX12_between 61 = .ok (.ireturn, 1) := by decide +kernel
theorem dX12_between_62 : decode cX12_between 62 = .ok (.iload_n 1, 1) := by decide +kernel
theorem dX12_between_63 : decode cX12_between 63 = .ok (.iload_n 2, 1) := by decide +kernel
theorem dX12_between_64 : decode cX12_between 64 = .ok (.if_icmp .le 7, 3) := by decide +kernel
theorem dX12_between_67 : decode cX12_between 67 = .ok (.iconst 1, 1) := by decide +kernel
theorem dX12_between_68 : decode cX12_between 68 = .ok (.goto 4, 3) := by decide +kernel
theorem dX12_between_71 : decode cX12_between 71 = .ok (.iconst 0, 1) := by decide +kernel
theorem dX12_between_72 : decode cX12_between 72 = .ok (.ireturn, 1) := by decide +kernel
theorem dX12_between_73 : decode cX12_between 73 = .ok (.iload_n 1, 1) := by decide +kernel
theorem dX12_between_74 : decode cX12_between 74 = .ok (.iload_n 2, 1) := by decide +kernel
theorem dX12_between_75 : decode cX12_between 75 = .ok (.iand, 1) := by decide +kernel
theorem dX12_between_76 : decode cX12_between 76 = .ok (.ireturn, 1) := by decide +kernel
theorem dX12_between_77 : decode cX12_between 77 = .ok (.iload_n 1, 1) := by decide +kernel
theorem dX12_between_78 : decode cX12_between 78 = .ok (.iload_n 2, 1) := by decide +kernel
theorem dX12_between_79 : decode cX12_between 79 = .ok (.ior, 1) := by decide +kernel
theorem dX12_between_80 : decode cX12_between 80 = .ok (.ireturn, 1) := by decide +kernel
theorem dX12_between_81 : decode cX12_between 81 = .ok (.iload_n 0, 1) := by decide +kernel
theorem dX12_between_82 : decode cX12_between 82 = .ok (.sipush 3000, 3) := by decide +kernel
theorem dX12_between_85 : decode cX12_between 85 = .ok (.if_icmp .ne 11, 3) := by decide +kernel
theorem dX12_between_88 : decode cX12_between 88 = .ok (.iload_n 1, 1) := by decide +kernel
theorem dX12_between_89 : decode cX12_between 89 = .ok (.i2l, 1) := by decide +kernel
theorem dX12_between_90 : decode cX12_between 90 = .ok (.iload_n 2, 1) := by decide +kernel
theorem dX12_between_91 : decode cX12_between 91 = .ok (.i2l, 1) := by decide +kernel
theorem dX12_between_92 : decode cX12_between 92 = .ok (.ladd, 1) := by decide +kernel
theorem dX12_between_93 : decode cX12_between 93 = .ok (.goto 23, 3) := by decide +kernel
theorem dX12_between_96 : decode cX12_between 96 = .ok (.iload_n 0, 1) := by decide +kernel
theorem dX12_between_97 : decode cX12_between 97 = .ok (.sipush 3001, 3) := by decide +kernel
theorem dX12_between_100 : decode cX12_between 100 = .ok (.if_icmp .ne 11, 3) := by decide +kernel
theorem dX12_between_103 : decode cX12_between 103 = .ok (.iload_n 1, 1) := by decide +kernel
theorem dX12_between_104 : decode cX12_between 104 = .ok (.i2l, 1) := by decide +kernel
theorem dX12_between_105 : decode cX12_between 105 = .ok (.iload_n 2, 1) := by decide +kernel
theorem dX12_between_106 : decode cX12_between 106 = .ok (.i2l, 1) := by decide +kernel
theorem dX12_between_107 : decode cX12_between 107 = .ok (.lsub, 1) := by decide +kernel
theorem dX12_between_108 : decode cX12_between 108 = .ok (.goto 8, 3) := by decide +kernel
theorem dX12_between_111 : decode cX12_between 111 = .ok (.iload_n 1, 1) := by decide +kernel
theorem dX12_between_112 : decode cX12_between 112 = .ok (.i2l, 1) := by decide +kernel
theorem dX12_between_113 : decode cX12_between 113 = .ok (.iload_n 2, 1) := by decide +kernel
theorem dX12_between_114 : decode cX12_between 114 = .ok (.i2l, 1) := by decide +kernel
theorem dX12_between_115 : decode cX12_between 115 = .ok (.lmul, 1) := by decide +kernel
theorem dX12_between_116 : decode cX12_between 116 = .ok (.lstore_n 3, 1) := by decide +kernel
theorem dX12_between_117 : decode cX12_between 117 = .ok (.lload_n 3, 1) := by decide +kernel
theorem dX12_between_118 : decode cX12_between 118 = .ok (.ldc2_w 206, 3) := by decide +kernel
theorem dX12_between_121 : decode cX12_between 121 = .ok (.lcmp, 1) := by decide +kernel
theorem dX12_between_122 : decode cX12_between 122 = .ok (.ifCond .le 9, 3) := by decide +kernel
theorem dX12_between_125 : decode cX12_between 125 = .ok (.ldc2_w 206, 3) := by decide +kernel
theorem dX12_between_128 : decode cX12_between 128 = .ok (.goto 18, 3) := by decide +kernel
theorem dX12_between_131 : decode cX12_between 131 = .ok (.lload_n 3, 1) := by decide +kernel
theorem dX12_between_132 : decode cX12_between 132 = .ok (.ldc2_w 208, 3) := by decide +kernel
theorem dX12_between_135 : decode cX12_between 135 = .ok (.lcmp, 1) := by decide +kernel
theorem dX12_between_136 : decode cX12_between 136 = .ok (.ifCond .ge 9, 3) := by decide +kernel
theorem dX12_between_139 : decode cX12_between 139 = .ok (.ldc2_w 208, 3) := by decide +kernel
theorem dX12_between_142 : decode cX12_between 142 = .ok (.goto 4, 3) := by decide +kernel
theorem dX12_between_145 : decode cX12_between 145 = .ok (.lload_n 3, 1) := by decide +kernel
theorem dX12_between_146 : decode cX12_between 146 = .ok (.l2i, 1) := by decide +kernel
theorem dX12_between_147 : decode cX12_between 147 = .ok (.ireturn, 1) := by decide +kernel
theorem dX12_reckons_0 : decode cX12_reckons 0 = .ok (.iconst 0, 1) := by decide +kernel
theorem dX12_reckons_1 : decode cX12_reckons 1 = .ok (.istore_n 2, 1) := by decide +kernel
theorem dX12_reckons_2 : decode cX12_reckons 2 = .ok (.iconst 0, 1) := by decide +kernel
theorem dX12_reckons_3 : decode cX12_reckons 3 = .ok (.istore_n 3, 1) := by decide +kernel
theorem dX12_reckons_4 : decode cX12_reckons 4 = .ok (.iload_n 3, 1) := by decide +kernel
theorem dX12_reckons_5 : decode cX12_reckons 5 = .ok (.aload_n 0, 1) := by decide +kernel
theorem dX12_reckons_6 : decode cX12_reckons 6 = .ok (.getfield 13, 3) := by decide +kernel
theorem dX12_reckons_9 : decode cX12_reckons 9 = .ok (.bipush 7, 2) := by decide +kernel
theorem dX12_reckons_11 : decode cX12_reckons 11 = .ok (.iload_n 1, 1) := by decide +kernel
theorem dX12_reckons_12 : decode cX12_reckons 12 = .ok (.iadd, 1) := by decide +kernel
theorem dX12_reckons_13 : decode cX12_reckons 13 = .ok (.iaload, 1) := by decide +kernel
theorem dX12_reckons_14 : decode cX12_reckons 14 = .ok (.if_icmp .ge 184, 3) := by decide +kernel
theorem dX12_reckons_17 : decode cX12_reckons 17 = .ok (.aload_n 0, 1) := by decide +kernel
theorem dX12_reckons_18 : decode cX12_reckons 18 = .ok (.getfield 13, 3) := by decide +kernel
theorem dX12_reckons_21 : decode cX12_reckons 21 = .ok (.sipush 144, 3) := by decide +kernel
theorem dX12_reckons_24 : decode cX12_reckons 24 = .ok (.aload_n 0, 1) := by decide +kernel
theorem dX12_reckons_25 : decode cX12_reckons 25 = .ok (.getfield 13, 3) := by decide +kernel
theorem dX12_reckons_28 : decode cX12_reckons 28 = .ok (.iconst 5, 1) := by decide +kernel
theorem dX12_reckons_29 : decode cX12_reckons 29 = .ok (.iload_n 1, 1) := by decide +kernel
theorem dX12_reckons_30 : decode cX12_reckons 30 = .ok (.iadd, 1) := by decide +kernel
theorem dX12_reckons_31 : decode cX12_reckons 31 = .ok (.iaload, 1) := by decide +kernel
theorem dX12_reckons_32 : decode cX12_reckons 32 = .ok (.iadd, 1) := by decide +kernel
theorem dX12_reckons_33 : decode cX12_reckons 33 = .ok (.iload_n 3, 1) := by decide +kernel
theorem dX12_reckons_34 : decode cX12_reckons 34 = .ok (.iadd, 1) := by decide +kernel
theorem dX12_reckons_35 : decode cX12_reckons 35 = .ok (.iaload, 1) := by decide +kernel
theorem dX12_reckons_36 : decode cX12_reckons 36 = .ok (.istore 4, 2) := by decide +kernel
theorem dX12_reckons_38 : decode cX12_reckons 38 = .ok (.iload 4, 2) := by decide +kernel
theorem dX12_reckons_40 : decode cX12_reckons 40 = .ok (.sipush 3000, 3) := by decide +kernel
theorem dX12_reckons_43 : decode cX12_reckons 43 = .ok (.if_icmp .ge 39, 3) := by decide +kernel
theorem dX12_reckons_46 : decode cX12_reckons 46 = .ok (.aload_n 0, 1) := by decide +kernel
theorem dX12_reckons_47 : decode cX12_reckons 47 = .ok (.getfield 30, 3) := by decide +kernel
theorem dX12_reckons_50 : decode cX12_reckons 50 = .ok (.iload_n 2, 1) := by decide +kernel
theorem dX12_reckons_51 : decode cX12_reckons 51 = .ok (.iload 4, 2) := by decide +kernel
theorem dX12_reckons_53 : decode cX12_reckons 53 = .ok (.sipush 1000, 3) := by decide +kernel
theorem dX12_reckons_56 : decode cX12_reckons 56 = .ok (.if_icmp .ge 8, 3) := by decide +kernel
theorem dX12_reckons_59 : decode cX12_reckons 59 = .ok (.iload 4, 2) := by decide +kernel
theorem dX12_reckons_61 : decode cX12_reckons 61 = .ok (.goto 14, 3) := by decide +kernel
theorem dX12_reckons_64 : decode cX12_reckons 64 = .ok (.aload_n 0, 1) := by decide +kernel
theorem dX12_reckons_65 : decode cX12_reckons 65 = .ok (.getfield 33, 3) := by decide +kernel
theorem dX12_reckons_68 : decode cX12_reckons 68 = .ok (.iload 4, 2) := by decide +kernel
theorem dX12_reckons_70 : decode cX12_reckons 70 = .ok (.sipush 1000, 3) := by decide +kernel
theorem dX12_reckons_73 : decode cX12_reckons 73 = .ok (.isub, 1) := by decide +kernel
theorem dX12_reckons_74 : decode cX12_reckons 74 = .ok (.iaload, 1) := by decide +kernel
theorem dX12_reckons_75 : decode cX12_reckons 75 = .ok (.iastore, 1) := by decide +kernel
theorem dX12_reckons_76 : decode cX12_reckons 76 = .ok (.iinc 2 1, 3) := by decide +kernel
theorem dX12_reckons_79 : decode cX12_reckons 79 = .ok (.goto 113, 3) := by decide +kernel
theorem dX12_reckons_82 : decode cX12_reckons 82 = .ok (.iload 4, 2) := by decide +kernel
theorem dX12_reckons_84 : decode cX12_reckons 84 = .ok (.sipush 3006, 3) := by decide +kernel
theorem dX12_reckons_87 : decode cX12_reckons 87 = .ok (.if_icmp .ne 24, 3) := by decide +kernel
theorem dX12_reckons_90 : decode cX12_reckons 90 = .ok (.aload_n 0, 1) := by decide +kernel
theorem dX12_reckons_91 : decode cX12_reckons 91 = .ok (.getfield 30, 3) := by decide +kernel
theorem dX12_reckons_94 : decode cX12_reckons 94 = .ok (.iload_n 2, 1) := by decide +kernel
theorem dX12_reckons_95 : decode cX12_reckons 95 = .ok (.iconst 1, 1) := by decide +kernel
theorem dX12_reckons_96 : decode cX12_reckons 96 = .ok (.isub, 1) := by decide +kernel
theorem dX12_reckons_97 : decode cX12_reckons 97 = .ok (.iconst 1, 1) := by decide +kernel
theorem dX12_reckons_98 : decode cX12_reckons 98 = .ok (.aload_n 0, 1) := by decide +kernel
theorem dX12_reckons_99 : decode cX12_reckons 99 = .ok (.getfield 30, 3) := by decide +kernel
theorem dX12_reckons_102 : decode cX12_reckons 102 = .ok (.iload_n 2, 1) := by decide +kernel
theorem dX12_reckons_103 : decode cX12_reckons 103 = .ok (.iconst 1, 1) := by decide +kernel
theorem dX12_reckons_104 : decode cX12_reckons 104 = .ok (.isub, 1) := by decide +kernel
theorem dX12_reckons_105 : decode cX12_reckons 105 = .ok (.iaload, 1) := by decide +kernel
theorem dX12_reckons_106 : decode cX12_reckons 106 = .ok (.isub, 1) := by decide +kernel
theorem dX12_reckons_107 : decode cX12_reckons 107 = .ok (.iastore, 1) := by decide +kernel
theorem dX12_reckons_108 : decode cX12_reckons 108 = .ok (.goto 84, 3) := by decide +kernel
theorem dX12_reckons_111 : decode cX12_reckons 111 = .ok (.iload 4, 2) := by decide +kernel
theorem dX12_reckons_113 : decode cX12_reckons 113 = .ok (.sipush 3009, 3) := by decide +kernel
theorem dX12_reckons_116 : decode cX12_reckons 116 = .ok (.if_icmp .ne 46, 3) := by decide +kernel
theorem dX12_reckons_119 : decode cX12_reckons 119 = .ok (.iinc 2 (-2), 3) := by decide +kernel
theorem dX12_reckons_122 : decode cX12_reckons 122 = .ok (.aload_n 0, 1) := by decide +kernel
theorem dX12_reckons_123 : decode cX12_reckons 123 = .ok (.getfield 30, 3) := by decide +kernel
theorem dX12_reckons_126 : decode cX12_reckons 126 = .ok (.iload_n 2, 1) := by decide +kernel
theorem dX12_reckons_127 : decode cX12_reckons 127 = .ok (.iconst 1, 1) := by decide +kernel
theorem dX12_reckons_128 : decode cX12_reckons 128 = .ok (.isub, 1) := by decide +kernel
theorem dX12_reckons_129 : decode cX12_reckons 129 = .ok (.aload_n 0, 1) := by decide +kernel
theorem dX12_reckons_130 : decode cX12_reckons 130 = .ok (.getfield 30, 3) := by decide +kernel
theorem dX12_reckons_133 : decode cX12_reckons 133 = .ok (.iload_n 2, 1) := by decide +kernel
theorem dX12_reckons_134 : decode cX12_reckons 134 = .ok (.iconst 1, 1) := by decide +kernel
theorem dX12_reckons_135 : decode cX12_reckons 135 = .ok (.isub, 1) := by decide +kernel
theorem dX12_reckons_136 : decode cX12_reckons 136 = .ok (.iaload, 1) := by decide +kernel
theorem dX12_reckons_137 : decode cX12_reckons 137 = .ok (.iconst 1, 1) := by decide +kernel
theorem dX12_reckons_138 : decode cX12_reckons 138 = .ok (.if_icmp .ne 12, 3) := by decide +kernel
theorem dX12_reckons_141 : decode cX12_reckons 141 = .ok (.aload_n 0, 1) := by decide +kernel
theorem dX12_reckons_142 : decode cX12_reckons 142 = .ok (.getfield 30, 3) := by decide +kernel
theorem dX12_reckons_145 : decode cX12_reckons 145 = .ok (.iload_n 2, 1) := by decide +kernel
theorem dX12_reckons_146 : decode cX12_reckons 146 = .ok (.iaload, 1) := by decide +kernel
theorem dX12_reckons_147 : decode cX12_reckons 147 = .ok (.goto 11, 3) := by decide +kernel
theorem dX12_reckons_150 : decode cX12_reckons 150 = .ok (.aload_n 0, 1) := by decide +kernel
theorem dX12_reckons_151 : decode cX12_reckons 151 = .ok (.getfield 30, 3) := by decide +kernel
theorem dX12_reckons_154 : decode cX12_reckons 154 = .ok (.iload_n 2, 1) := by decide +kernel
theorem dX12_reckons_155 : decode cX12_reckons 155 = .ok (.iconst 1, 1) := by decide +kernel
theorem dX12_reckons_156 : decode cX12_reckons 156 = .ok (.iadd, 1) := by decide +kernel
theorem dX12_reckons_157 : decode cX12_reckons 157 = .ok (.iaload, 1) := by decide +kernel
theorem dX12_reckons_158 : decode cX12_reckons 158 = .ok (.iastore, 1) := by decide +kernel
theorem dX12_reckons_159 : decode cX12_reckons 159 = .ok (.goto 33, 3) := by decide +kernel
theorem dX12_reckons_162 : decode cX12_reckons 162 = .ok (.iinc 2 (-1), 3) := by decide +kernel
theorem dX12_reckons_165 : decode cX12_reckons 165 = .ok (.aload_n 0, 1) := by decide +kernel
theorem dX12_reckons_166 : decode cX12_reckons 166 = .ok (.getfield 30, 3) := by decide +kernel
theorem dX12_reckons_169 : decode cX12_reckons 169 = .ok (.iload_n 2, 1) := by decide +kernel
theorem dX12_reckons_170 : decode cX12_reckons 170 = .ok (.iconst 1, 1) := by decide +kernel
theorem dX12_reckons_171 : decode cX12_reckons 171 = .ok (.isub, 1) := by decide +kernel
theorem dX12_reckons_172 : decode cX12_reckons 172 = .ok (.iload 4, 2) := by decide +kernel
theorem dX12_reckons_174 : decode cX12_reckons 174 = .ok (.aload_n 0, 1) := by decide +kernel
theorem dX12_reckons_175 : decode cX12_reckons 175 = .ok (.getfield 30, 3) := by decide +kernel
theorem dX12_reckons_178 : decode cX12_reckons 178 = .ok (.iload_n 2, 1) := by decide +kernel
theorem dX12_reckons_179 : decode cX12_reckons 179 = .ok (.iconst 1, 1) := by decide +kernel
theorem dX12_reckons_180 : decode cX12_reckons 180 = .ok (.isub, 1) := by decide +kernel
theorem dX12_reckons_181 : decode cX12_reckons 181 = .ok (.iaload, 1) := by decide +kernel
theorem dX12_reckons_182 : decode cX12_reckons 182 = .ok (.aload_n 0, 1) := by decide +kernel
theorem dX12_reckons_183 : decode cX12_reckons 183 = .ok (.getfield 30, 3) := by decide +kernel
theorem dX12_reckons_186 : decode cX12_reckons 186 = .ok (.iload_n 2, 1) := by decide +kernel
theorem dX12_reckons_187 : decode cX12_reckons 187 = .ok (.iaload, 1) := by decide +kernel
theorem dX12_reckons_188 : decode cX12_reckons 188 = .ok (.invokestatic 210, 3) := by decide +kernel
theorem dX12_reckons_191 : decode cX12_reckons 191 = .ok (.iastore, 1) := by decide +kernel
theorem dX12_reckons_192 : decode cX12_reckons 192 = .ok (.iinc 3 1, 3) := by decide +kernel
theorem dX12_reckons_195 : decode cX12_reckons 195 = .ok (.goto (-191), 3) := by decide +kernel
theorem dX12_reckons_198 : decode cX12_reckons 198 = .ok (.aload_n 0, 1) := by decide +kernel
theorem dX12_reckons_199 : decode cX12_reckons 199 = .ok (.getfield 30, 3) := by decide +kernel
theorem dX12_reckons_202 : decode cX12_reckons 202 = .ok (.iconst 0, 1) := by decide +kernel
theorem dX12_reckons_203 : decode cX12_reckons 203 = .ok (.iaload, 1) := by decide +kernel
theorem dX12_reckons_204 : decode cX12_reckons 204 = .ok (.ireturn, 1) := by decide +kernel
theorem dX12_ageIn_0 : decode cX12_ageIn 0 = .ok (.iload_n 0, 1) := by decide +kernel
theorem dX12_ageIn_1 : decode cX12_ageIn 1 = .ok (.iconst 2, 1) := by decide +kernel
theorem dX12_ageIn_2 : decode cX12_ageIn 2 = .ok (.iconst 4, 1) := by decide +kernel
theorem dX12_ageIn_3 : decode cX12_ageIn 3 = .ok (.iload_n 1, 1) := by decide +kernel
theorem dX12_ageIn_4 : decode cX12_ageIn 4 = .ok (.imul, 1) := by decide +kernel
theorem dX12_ageIn_5 : decode cX12_ageIn 5 = .ok (.iload_n 2, 1) := by decide +kernel
theorem dX12_ageIn_6 : decode cX12_ageIn 6 = .ok (.iadd, 1) := by decide +kernel
theorem dX12_ageIn_7 : decode cX12_ageIn 7 = .ok (.imul, 1) := by decide +kernel
theorem dX12_ageIn_8 : decode cX12_ageIn 8 = .ok (.ishr, 1) := by decide +kernel
theorem dX12_ageIn_9 : decode cX12_ageIn 9 = .ok (.iconst 3, 1) := by decide +kernel
theorem dX12_ageIn_10 : decode cX12_ageIn 10 = .ok (.iand, 1) := by decide +kernel
theorem dX12_ageIn_11 : decode cX12_ageIn 11 = .ok (.ireturn, 1) := by decide +kernel
theorem dX12_withAge_0 : decode cX12_withAge 0 = .ok (.iconst 2, 1) := by decide +kernel
theorem dX12_withAge_1 : decode cX12_withAge 1 = .ok (.iconst 4, 1) := by decide +kernel
theorem dX12_withAge_2 : decode cX12_withAge 2 = .ok (.iload_n 1, 1) := by decide +kernel
theorem dX12_withAge_3 : decode cX12_withAge 3 = .ok (.imul, 1) := by decide +kernel
theorem dX12_withAge_4 : decode cX12_withAge 4 = .ok (.iload_n 2, 1) := by decide +kernel
theorem dX12_withAge_5 : decode cX12_withAge 5 = .ok (.iadd, 1) := by decide +kernel
theorem dX12_withAge_6 : decode cX12_withAge 6 = .ok (.imul, 1) := by decide +kernel
theorem dX12_withAge_7 : decode cX12_withAge 7 = .ok (.istore 4, 2) := by decide +kernel
theorem dX12_withAge_9 : decode cX12_withAge 9 = .ok (.iload_n 0, 1) := by decide +kernel
theorem dX12_withAge_10 : decode cX12_withAge 10 = .ok (.iconst 3, 1) := by decide +kernel
theorem dX12_withAge_11 : decode cX12_withAge 11 = .ok (.iload 4, 2) := by decide +kernel
theorem dX12_withAge_13 : decode cX12_withAge 13 = .ok (.ishl, 1) := by decide +kernel
theorem dX12_withAge_14 : decode cX12_withAge 14 = .ok (.iconst (-1), 1) := by decide +kernel
theorem dX12_withAge_15 : decode cX12_withAge 15 = .ok (.ixor, 1) := by decide +kernel
theorem dX12_withAge_16 : decode cX12_withAge 16 = .ok (.iand, 1) := by decide +kernel
theorem dX12_withAge_17 : decode cX12_withAge 17 = .ok (.iload_n 3, 1) := by decide +kernel
theorem dX12_withAge_18 : decode cX12_withAge 18 = .ok (.iload 4, 2) := by decide +kernel
theorem dX12_withAge_20 : decode cX12_withAge 20 = .ok (.ishl, 1) := by decide +kernel
theorem dX12_withAge_21 : decode cX12_withAge 21 = .ok (.ior, 1) := by decide +kernel
theorem dX12_withAge_22 : decode cX12_withAge 22 = .ok (.ireturn, 1) := by decide +kernel
theorem dX12_standNow_0 : decode cX12_standNow 0 = .ok (.iconst 0, 1) := by decide +kernel
theorem dX12_standNow_1 : decode cX12_standNow 1 = .ok (.istore_n 1, 1) := by decide +kernel
theorem dX12_standNow_2 : decode cX12_standNow 2 = .ok (.iconst 0, 1) := by decide +kernel
theorem dX12_standNow_3 : decode cX12_standNow 3 = .ok (.istore_n 2, 1) := by decide +kernel
theorem dX12_standNow_4 : decode cX12_standNow 4 = .ok (.iload_n 2, 1) := by decide +kernel
theorem dX12_standNow_5 : decode cX12_standNow 5 = .ok (.bipush 8, 2) := by decide +kernel
theorem dX12_standNow_7 : decode cX12_standNow 7 = .ok (.if_icmp .ge 25, 3) := by decide +kernel
theorem dX12_standNow_10 : decode cX12_standNow 10 = .ok (.iload_n 1, 1) := by decide +kernel
theorem dX12_standNow_11 : decode cX12_standNow 11 = .ok (.aload_n 0, 1) := by decide +kernel
theorem dX12_standNow_12 : decode cX12_standNow 12 = .ok (.getfield 13, 3) := by decide +kernel
theorem dX12_standNow_15 : decode cX12_standNow 15 = .ok (.bipush 43, 2) := by decide +kernel
theorem dX12_standNow_17 : decode cX12_standNow 17 = .ok (.iload_n 2, 1) := by decide +kernel
theorem dX12_standNow_18 : decode cX12_standNow 18 = .ok (.iadd, 1) := by decide +kernel
theorem dX12_standNow_19 : decode cX12_standNow 19 = .ok (.iaload, 1) := by decide +kernel
theorem dX12_standNow_20 : decode cX12_standNow 20 = .ok (.iconst 2, 1) := by decide +kernel
theorem dX12_standNow_21 : decode cX12_standNow 21 = .ok (.iload_n 2, 1) := by decide +kernel
theorem dX12_standNow_22 : decode cX12_standNow 22 = .ok (.imul, 1) := by decide +kernel
theorem dX12_standNow_23 : decode cX12_standNow 23 = .ok (.ishl, 1) := by decide +kernel
theorem dX12_standNow_24 : decode cX12_standNow 24 = .ok (.ior, 1) := by decide +kernel
theorem dX12_standNow_25 : decode cX12_standNow 25 = .ok (.istore_n 1, 1) := by decide +kernel
theorem dX12_standNow_26 : decode cX12_standNow 26 = .ok (.iinc 2 1, 3) := by decide +kernel
theorem dX12_standNow_29 : decode cX12_standNow 29 = .ok (.goto (-25), 3) := by decide +kernel
theorem dX12_standNow_32 : decode cX12_standNow 32 = .ok (.iload_n 1, 1) := by decide +kernel
theorem dX12_standNow_33 : decode cX12_standNow 33 = .ok (.ireturn, 1) := by decide +kernel
theorem dX12_isStand_0 : decode cX12_isStand 0 = .ok (.iconst 0, 1) := by decide +kernel
theorem dX12_isStand_1 : decode cX12_isStand 1 = .ok (.istore_n 2, 1) := by decide +kernel
theorem dX12_isStand_2 : decode cX12_isStand 2 = .ok (.iload_n 2, 1) := by decide +kernel
theorem dX12_isStand_3 : decode cX12_isStand 3 = .ok (.bipush 8, 2) := by decide +kernel
theorem dX12_isStand_5 : decode cX12_isStand 5 = .ok (.if_icmp .ge 25, 3) := by decide +kernel
theorem dX12_isStand_8 : decode cX12_isStand 8 = .ok (.aload_n 0, 1) := by decide +kernel
theorem dX12_isStand_9 : decode cX12_isStand 9 = .ok (.getfield 13, 3) := by decide +kernel
theorem dX12_isStand_12 : decode cX12_isStand 12 = .ok (.bipush 43, 2) := by decide +kernel
theorem dX12_isStand_14 : decode cX12_isStand 14 = .ok (.iload_n 2, 1) := by decide +kernel
theorem dX12_isStand_15 : decode cX12_isStand 15 = .ok (.iadd, 1) := by decide +kernel
theorem dX12_isStand_16 : decode cX12_isStand 16 = .ok (.iload_n 1, 1) := by decide +kernel
theorem dX12_isStand_17 : decode cX12_isStand 17 = .ok (.iconst 2, 1) := by decide +kernel
theorem dX12_isStand_18 : decode cX12_isStand 18 = .ok (.iload_n 2, 1) := by decide +kernel
theorem dX12_isStand_19 : decode cX12_isStand 19 = .ok (.imul, 1) := by decide +kernel
theorem dX12_isStand_20 : decode cX12_isStand 20 = .ok (.ishr, 1) := by decide +kernel
theorem dX12_isStand_21 : decode cX12_isStand 21 = .ok (.iconst 3, 1) := by decide +kernel
theorem dX12_isStand_22 : decode cX12_isStand 22 = .ok (.iand, 1) := by decide +kernel
theorem dX12_isStand_23 : decode cX12_isStand 23 = .ok (.iastore, 1) := by decide +kernel
theorem dX12_isStand_24 : decode cX12_isStand 24 = .ok (.iinc 2 1, 3) := by decide +kernel
theorem dX12_isStand_27 : decode cX12_isStand 27 = .ok (.goto (-25), 3) := by decide +kernel
theorem dX12_isStand_30 : decode cX12_isStand 30 = .ok (.return_, 1) := by decide +kernel
theorem dX12_knownIn_0 : decode cX12_knownIn 0 = .ok (.iconst 0, 1) := by decide +kernel
theorem dX12_knownIn_1 : decode cX12_knownIn 1 = .ok (.istore_n 2, 1) := by decide +kernel
theorem dX12_knownIn_2 : decode cX12_knownIn 2 = .ok (.iconst 0, 1) := by decide +kernel
theorem dX12_knownIn_3 : decode cX12_knownIn 3 = .ok (.istore_n 3, 1) := by decide +kernel
theorem dX12_knownIn_4 : decode cX12_knownIn 4 = .ok (.iload_n 3, 1) := by decide +kernel
theorem dX12_knownIn_5 : decode cX12_knownIn 5 = .ok (.iconst 4, 1) := by decide +kernel
theorem dX12_knownIn_6 : decode cX12_knownIn 6 = .ok (.if_icmp .ge 26, 3) := by decide +kernel
theorem dX12_knownIn_9 : decode cX12_knownIn 9 = .ok (.iload_n 2, 1) := by decide +kernel
theorem dX12_knownIn_10 : decode cX12_knownIn 10 = .ok (.iload_n 0, 1) := by decide +kernel
theorem dX12_knownIn_11 : decode cX12_knownIn 11 = .ok (.iload_n 1, 1) := by decide +kernel
theorem dX12_knownIn_12 : decode cX12_knownIn 12 = .ok (.iload_n 3, 1) := by decide +kernel
theorem dX12_knownIn_13 : decode cX12_knownIn 13 = .ok (.invokestatic 214, 3) := by decide +kernel
theorem dX12_knownIn_16 : decode cX12_knownIn 16 = .ok (.ifCond .le 7, 3) := by decide +kernel
theorem dX12_knownIn_19 : decode cX12_knownIn 19 = .ok (.iconst 1, 1) := by decide +kernel
theorem dX12_knownIn_20 : decode cX12_knownIn 20 = .ok (.goto 4, 3) := by decide +kernel
theorem dX12_knownIn_23 : decode cX12_knownIn 23 = .ok (.iconst 0, 1) := by decide +kernel
theorem dX12_knownIn_24 : decode cX12_knownIn 24 = .ok (.iadd, 1) := by decide +kernel
theorem dX12_knownIn_25 : decode cX12_knownIn 25 = .ok (.istore_n 2, 1) := by decide +kernel
theorem dX12_knownIn_26 : decode cX12_knownIn 26 = .ok (.iinc 3 1, 3) := by decide +kernel
theorem dX12_knownIn_29 : decode cX12_knownIn 29 = .ok (.goto (-25), 3) := by decide +kernel
theorem dX12_knownIn_32 : decode cX12_knownIn 32 = .ok (.iload_n 2, 1) := by decide +kernel
theorem dX12_knownIn_33 : decode cX12_knownIn 33 = .ok (.ireturn, 1) := by decide +kernel
theorem dX12_laysWords_0 : decode cX12_laysWords 0 = .ok (.aload_n 0, 1) := by decide +kernel
theorem dX12_laysWords_1 : decode cX12_laysWords 1 = .ok (.getfield 33, 3) := by decide +kernel
theorem dX12_laysWords_4 : decode cX12_laysWords 4 = .ok (.iconst 0, 1) := by decide +kernel
theorem dX12_laysWords_5 : decode cX12_laysWords 5 = .ok (.iload_n 2, 1) := by decide +kernel
theorem dX12_laysWords_6 : decode cX12_laysWords 6 = .ok (.iastore, 1) := by decide +kernel
theorem dX12_laysWords_7 : decode cX12_laysWords 7 = .ok (.aload_n 0, 1) := by decide +kernel
theorem dX12_laysWords_8 : decode cX12_laysWords 8 = .ok (.getfield 33, 3) := by decide +kernel
theorem dX12_laysWords_11 : decode cX12_laysWords 11 = .ok (.iconst 1, 1) := by decide +kernel
theorem dX12_laysWords_12 : decode cX12_laysWords 12 = .ok (.iload_n 3, 1) := by decide +kernel
theorem dX12_laysWords_13 : decode cX12_laysWords 13 = .ok (.iastore, 1) := by decide +kernel
theorem dX12_laysWords_14 : decode cX12_laysWords 14 = .ok (.aload_n 0, 1) := by decide +kernel
theorem dX12_laysWords_15 : decode cX12_laysWords 15 = .ok (.getfield 33, 3) := by decide +kernel
theorem dX12_laysWords_18 : decode cX12_laysWords 18 = .ok (.iconst 2, 1) := by decide +kernel
theorem dX12_laysWords_19 : decode cX12_laysWords 19 = .ok (.aload_n 0, 1) := by decide +kernel
theorem dX12_laysWords_20 : decode cX12_laysWords 20 = .ok (.getfield 13, 3) := by decide +kernel
theorem dX12_laysWords_23 : decode cX12_laysWords 23 = .ok (.bipush 9, 2) := by decide +kernel
theorem dX12_laysWords_25 : decode cX12_laysWords 25 = .ok (.iload_n 3, 1) := by decide +kernel
theorem dX12_laysWords_26 : decode cX12_laysWords 26 = .ok (.iadd, 1) := by decide +kernel
theorem dX12_laysWords_27 : decode cX12_laysWords 27 = .ok (.iaload, 1) := by decide +kernel
theorem dX12_laysWords_28 : decode cX12_laysWords 28 = .ok (.iastore, 1) := by decide +kernel
theorem dX12_laysWords_29 : decode cX12_laysWords 29 = .ok (.aload_n 0, 1) := by decide +kernel
theorem dX12_laysWords_30 : decode cX12_laysWords 30 = .ok (.getfield 33, 3) := by decide +kernel
theorem dX12_laysWords_33 : decode cX12_laysWords 33 = .ok (.iconst 3, 1) := by decide +kernel
theorem dX12_laysWords_34 : decode cX12_laysWords 34 = .ok (.iload_n 1, 1) := by decide +kernel
theorem dX12_laysWords_35 : decode cX12_laysWords 35 = .ok (.iload_n 2, 1) := by decide +kernel
theorem dX12_laysWords_36 : decode cX12_laysWords 36 = .ok (.invokestatic 217, 3) := by decide +kernel
theorem dX12_laysWords_39 : decode cX12_laysWords 39 = .ok (.iastore, 1) := by decide +kernel
theorem dX12_laysWords_40 : decode cX12_laysWords 40 = .ok (.aload_n 0, 1) := by decide +kernel
theorem dX12_laysWords_41 : decode cX12_laysWords 41 = .ok (.getfield 33, 3) := by decide +kernel
theorem dX12_laysWords_44 : decode cX12_laysWords 44 = .ok (.iconst 4, 1) := by decide +kernel
theorem dX12_laysWords_45 : decode cX12_laysWords 45 = .ok (.iload_n 1, 1) := by decide +kernel
theorem dX12_laysWords_46 : decode cX12_laysWords 46 = .ok (.iconst 1, 1) := by decide +kernel
theorem dX12_laysWords_47 : decode cX12_laysWords 47 = .ok (.iload_n 2, 1) := by decide +kernel
theorem dX12_laysWords_48 : decode cX12_laysWords 48 = .ok (.isub, 1) := by decide +kernel
theorem dX12_laysWords_49 : decode cX12_laysWords 49 = .ok (.invokestatic 217, 3) := by decide +kernel
theorem dX12_laysWords_52 : decode cX12_laysWords 52 = .ok (.iastore, 1) := by decide +kernel
theorem dX12_laysWords_53 : decode cX12_laysWords 53 = .ok (.aload_n 0, 1) := by decide +kernel
theorem dX12_laysWords_54 : decode cX12_laysWords 54 = .ok (.getfield 33, 3) := by decide +kernel
theorem dX12_laysWords_57 : decode cX12_laysWords 57 = .ok (.iconst 5, 1) := by decide +kernel
theorem dX12_laysWords_58 : decode cX12_laysWords 58 = .ok (.aload_n 0, 1) := by decide +kernel
theorem dX12_laysWords_59 : decode cX12_laysWords 59 = .ok (.getfield 13, 3) := by decide +kernel
theorem dX12_laysWords_62 : decode cX12_laysWords 62 = .ok (.bipush 51, 2) := by decide +kernel
theorem dX12_laysWords_64 : decode cX12_laysWords 64 = .ok (.iaload, 1) := by decide +kernel
theorem dX12_laysWords_65 : decode cX12_laysWords 65 = .ok (.iastore, 1) := by decide +kernel
theorem dX12_laysWords_66 : decode cX12_laysWords 66 = .ok (.return_, 1) := by decide +kernel
theorem dX12_mayTell_0 : decode cX12_mayTell 0 = .ok (.aload_n 0, 1) := by decide +kernel
theorem dX12_mayTell_1 : decode cX12_mayTell 1 = .ok (.getfield 13, 3) := by decide +kernel
theorem dX12_mayTell_4 : decode cX12_mayTell 4 = .ok (.iconst 4, 1) := by decide +kernel
theorem dX12_mayTell_5 : decode cX12_mayTell 5 = .ok (.iaload, 1) := by decide +kernel
theorem dX12_mayTell_6 : decode cX12_mayTell 6 = .ok (.ifCond .ne 5, 3) := by decide +kernel
theorem dX12_mayTell_9 : decode cX12_mayTell 9 = .ok (.iconst 1, 1) := by decide +kernel
theorem dX12_mayTell_10 : decode cX12_mayTell 10 = .ok (.ireturn, 1) := by decide +kernel
theorem dX12_mayTell_11 : decode cX12_mayTell 11 = .ok (.aload_n 0, 1) := by decide +kernel
theorem dX12_mayTell_12 : decode cX12_mayTell 12 = .ok (.iload_n 1, 1) := by decide +kernel
theorem dX12_mayTell_13 : decode cX12_mayTell 13 = .ok (.iload_n 2, 1) := by decide +kernel
theorem dX12_mayTell_14 : decode cX12_mayTell 14 = .ok (.iload_n 3, 1) := by decide +kernel
theorem dX12_mayTell_15 : decode cX12_mayTell 15 = .ok (.invokevirtual 220, 3) := by decide +kernel
theorem dX12_mayTell_18 : decode cX12_mayTell 18 = .ok (.aload_n 0, 1) := by decide +kernel
theorem dX12_mayTell_19 : decode cX12_mayTell 19 = .ok (.iconst 1, 1) := by decide +kernel
theorem dX12_mayTell_20 : decode cX12_mayTell 20 = .ok (.invokevirtual 224, 3) := by decide +kernel
theorem dX12_mayTell_23 : decode cX12_mayTell 23 = .ok (.iconst 1, 1) := by decide +kernel
theorem dX12_mayTell_24 : decode cX12_mayTell 24 = .ok (.if_icmp .ne 7, 3) := by decide +kernel
theorem dX12_mayTell_27 : decode cX12_mayTell 27 = .ok (.iconst 1, 1) := by decide +kernel
theorem dX12_mayTell_28 : decode cX12_mayTell 28 = .ok (.goto 4, 3) := by decide +kernel
theorem dX12_mayTell_31 : decode cX12_mayTell 31 = .ok (.iconst 0, 1) := by decide +kernel
theorem dX12_mayTell_32 : decode cX12_mayTell 32 = .ok (.ireturn, 1) := by decide +kernel
theorem dX12_comesTo_0 : decode cX12_comesTo 0 = .ok (.aload_n 0, 1) := by decide +kernel
theorem dX12_comesTo_1 : decode cX12_comesTo 1 = .ok (.getfield 13, 3) := by decide +kernel
theorem dX12_comesTo_4 : decode cX12_comesTo 4 = .ok (.iconst 3, 1) := by decide +kernel
theorem dX12_comesTo_5 : decode cX12_comesTo 5 = .ok (.iaload, 1) := by decide +kernel
theorem dX12_comesTo_6 : decode cX12_comesTo 6 = .ok (.ifCond .ne 5, 3) := by decide +kernel
theorem dX12_comesTo_9 : decode cX12_comesTo 9 = .ok (.iconst 2, 1) := by decide +kernel
theorem dX12_comesTo_10 : decode cX12_comesTo 10 = .ok (.ireturn, 1) := by decide +kernel
theorem dX12_comesTo_11 : decode cX12_comesTo 11 = .ok (.aload_n 0, 1) := by decide +kernel
theorem dX12_comesTo_12 : decode cX12_comesTo 12 = .ok (.iload_n 1, 1) := by decide +kernel
theorem dX12_comesTo_13 : decode cX12_comesTo 13 = .ok (.iload_n 2, 1) := by decide +kernel
theorem dX12_comesTo_14 : decode cX12_comesTo 14 = .ok (.iload_n 3, 1) := by decide +kernel
theorem dX12_comesTo_15 : decode cX12_comesTo 15 = .ok (.invokevirtual 220, 3) := by decide +kernel
theorem dX12_comesTo_18 : decode cX12_comesTo 18 = .ok (.aload_n 0, 1) := by decide +kernel
theorem dX12_comesTo_19 : decode cX12_comesTo 19 = .ok (.iconst 0, 1) := by decide +kernel
theorem dX12_comesTo_20 : decode cX12_comesTo 20 = .ok (.invokevirtual 224, 3) := by decide +kernel
theorem dX12_comesTo_23 : decode cX12_comesTo 23 = .ok (.istore 4, 2) := by decide +kernel
theorem dX12_comesTo_25 : decode cX12_comesTo 25 = .ok (.iload 4, 2) := by decide +kernel
theorem dX12_comesTo_27 : decode cX12_comesTo 27 = .ok (.ifCond .ge 7, 3) := by decide +kernel
theorem dX12_comesTo_30 : decode cX12_comesTo 30 = .ok (.iconst 0, 1) := by decide +kernel
theorem dX12_comesTo_31 : decode cX12_comesTo 31 = .ok (.goto 15, 3) := by decide +kernel
theorem dX12_comesTo_34 : decode cX12_comesTo 34 = .ok (.iload 4, 2) := by decide +kernel
theorem dX12_comesTo_36 : decode cX12_comesTo 36 = .ok (.iconst 3, 1) := by decide +kernel
theorem dX12_comesTo_37 : decode cX12_comesTo 37 = .ok (.if_icmp .le 7, 3) := by decide +kernel
theorem dX12_comesTo_40 : decode cX12_comesTo 40 = .ok (.iconst 3, 1) := by decide +kernel
theorem dX12_comesTo_41 : decode cX12_comesTo 41 = .ok (.goto 5, 3) := by decide +kernel
theorem dX12_comesTo_44 : decode cX12_comesTo 44 = .ok (.iload 4, 2) := by decide +kernel
theorem dX12_comesTo_46 : decode cX12_comesTo 46 = .ok (.ireturn, 1) := by decide +kernel
theorem dX12_toldTo_0 : decode cX12_toldTo 0 = .ok (.aload_n 0, 1) := by decide +kernel
theorem dX12_toldTo_1 : decode cX12_toldTo 1 = .ok (.iload_n 1, 1) := by decide +kernel
theorem dX12_toldTo_2 : decode cX12_toldTo 2 = .ok (.iload_n 2, 1) := by decide +kernel
theorem dX12_toldTo_3 : decode cX12_toldTo 3 = .ok (.iload_n 3, 1) := by decide +kernel
theorem dX12_toldTo_4 : decode cX12_toldTo 4 = .ok (.invokevirtual 227, 3) := by decide +kernel
theorem dX12_toldTo_7 : decode cX12_toldTo 7 = .ok (.istore 4, 2) := by decide +kernel
theorem dX12_toldTo_9 : decode cX12_toldTo 9 = .ok (.iload_n 1, 1) := by decide +kernel
theorem dX12_toldTo_10 : decode cX12_toldTo 10 = .ok (.iconst 1, 1) := by decide +kernel
theorem dX12_toldTo_11 : decode cX12_toldTo 11 = .ok (.iload_n 2, 1) := by decide +kernel
theorem dX12_toldTo_12 : decode cX12_toldTo 12 = .ok (.isub, 1) := by decide +kernel
theorem dX12_toldTo_13 : decode cX12_toldTo 13 = .ok (.iload_n 3, 1) := by decide +kernel
theorem dX12_toldTo_14 : decode cX12_toldTo 14 = .ok (.invokestatic 214, 3) := by decide +kernel
theorem dX12_toldTo_17 : decode cX12_toldTo 17 = .ok (.istore 5, 2) := by decide +kernel
theorem dX12_toldTo_19 : decode cX12_toldTo 19 = .ok (.iload_n 1, 1) := by decide +kernel
theorem dX12_toldTo_20 : decode cX12_toldTo 20 = .ok (.iload_n 2, 1) := by decide +kernel
theorem dX12_toldTo_21 : decode cX12_toldTo 21 = .ok (.iload_n 3, 1) := by decide +kernel
theorem dX12_toldTo_22 : decode cX12_toldTo 22 = .ok (.invokestatic 214, 3) := by decide +kernel
theorem dX12_toldTo_25 : decode cX12_toldTo 25 = .ok (.istore 6, 2) := by decide +kernel
theorem dX12_toldTo_27 : decode cX12_toldTo 27 = .ok (.iload_n 1, 1) := by decide +kernel
theorem dX12_toldTo_28 : decode cX12_toldTo 28 = .ok (.iload_n 2, 1) := by decide +kernel
theorem dX12_toldTo_29 : decode cX12_toldTo 29 = .ok (.iload_n 3, 1) := by decide +kernel
theorem dX12_toldTo_30 : decode cX12_toldTo 30 = .ok (.iload 6, 2) := by decide +kernel
theorem dX12_toldTo_32 : decode cX12_toldTo 32 = .ok (.ifCond .ne 7, 3) := by decide +kernel
theorem dX12_toldTo_35 : decode cX12_toldTo 35 = .ok (.iconst 1, 1) := by decide +kernel
theorem dX12_toldTo_36 : decode cX12_toldTo 36 = .ok (.goto 5, 3) := by decide +kernel
theorem dX12_toldTo_39 : decode cX12_toldTo 39 = .ok (.iload 6, 2) := by decide +kernel
theorem dX12_toldTo_41 : decode cX12_toldTo 41 = .ok (.invokestatic 230, 3) := by decide +kernel
theorem dX12_toldTo_44 : decode cX12_toldTo 44 = .ok (.iconst 1, 1) := by decide +kernel
theorem dX12_toldTo_45 : decode cX12_toldTo 45 = .ok (.iload_n 2, 1) := by decide +kernel
theorem dX12_toldTo_46 : decode cX12_toldTo 46 = .ok (.isub, 1) := by decide +kernel
theorem dX12_toldTo_47 : decode cX12_toldTo 47 = .ok (.iload_n 3, 1) := by decide +kernel
theorem dX12_toldTo_48 : decode cX12_toldTo 48 = .ok (.iload 4, 2) := by decide +kernel
theorem dX12_toldTo_50 : decode cX12_toldTo 50 = .ok (.iload 5, 2) := by decide +kernel
theorem dX12_toldTo_52 : decode cX12_toldTo 52 = .ok (.if_icmp .le 8, 3) := by decide +kernel
theorem dX12_toldTo_55 : decode cX12_toldTo 55 = .ok (.iload 4, 2) := by decide +kernel
theorem dX12_toldTo_57 : decode cX12_toldTo 57 = .ok (.goto 5, 3) := by decide +kernel
theorem dX12_toldTo_60 : decode cX12_toldTo 60 = .ok (.iload 5, 2) := by decide +kernel
theorem dX12_toldTo_62 : decode cX12_toldTo 62 = .ok (.invokestatic 230, 3) := by decide +kernel
theorem dX12_toldTo_65 : decode cX12_toldTo 65 = .ok (.ireturn, 1) := by decide +kernel
theorem dX12_dayTo_0 : decode cX12_dayTo 0 = .ok (.iload_n 0, 1) := by decide +kernel
theorem dX12_dayTo_1 : decode cX12_dayTo 1 = .ok (.istore_n 1, 1) := by decide +kernel
theorem dX12_dayTo_2 : decode cX12_dayTo 2 = .ok (.iconst 0, 1) := by decide +kernel
theorem dX12_dayTo_3 : decode cX12_dayTo 3 = .ok (.istore_n 2, 1) := by decide +kernel
theorem dX12_dayTo_4 : decode cX12_dayTo 4 = .ok (.iload_n 2, 1) := by decide +kernel
theorem dX12_dayTo_5 : decode cX12_dayTo 5 = .ok (.bipush 8, 2) := by decide +kernel
theorem dX12_dayTo_7 : decode cX12_dayTo 7 = .ok (.if_icmp .ge 35, 3) := by decide +kernel
theorem dX12_dayTo_10 : decode cX12_dayTo 10 = .ok (.iload_n 0, 1) := by decide +kernel
theorem dX12_dayTo_11 : decode cX12_dayTo 11 = .ok (.iconst 2, 1) := by decide +kernel
theorem dX12_dayTo_12 : decode cX12_dayTo 12 = .ok (.iload_n 2, 1) := by decide +kernel
theorem dX12_dayTo_13 : decode cX12_dayTo 13 = .ok (.imul, 1) := by decide +kernel
theorem dX12_dayTo_14 : decode cX12_dayTo 14 = .ok (.ishr, 1) := by decide +kernel
theorem dX12_dayTo_15 : decode cX12_dayTo 15 = .ok (.iconst 3, 1) := by decide +kernel
theorem dX12_dayTo_16 : decode cX12_dayTo 16 = .ok (.iand, 1) := by decide +kernel
theorem dX12_dayTo_17 : decode cX12_dayTo 17 = .ok (.i2l, 1) := by decide +kernel
theorem dX12_dayTo_18 : decode cX12_dayTo 18 = .ok (.lconst 1, 1) := by decide +kernel
theorem dX12_dayTo_19 : decode cX12_dayTo 19 = .ok (.ldc2_w 234, 3) := by decide +kernel
theorem dX12_dayTo_22 : decode cX12_dayTo 22 = .ok (.invokestatic 138, 3) := by decide +kernel
theorem dX12_dayTo_25 : decode cX12_dayTo 25 = .ok (.ifCond .eq 11, 3) := by decide +kernel
theorem dX12_dayTo_28 : decode cX12_dayTo 28 = .ok (.iload_n 1, 1) := by decide +kernel
theorem dX12_dayTo_29 : decode cX12_dayTo 29 = .ok (.iconst 1, 1) := by decide +kernel
theorem dX12_dayTo_30 : decode cX12_dayTo 30 = .ok (.iconst 2, 1) := by decide +kernel
theorem dX12_dayTo_31 : decode cX12_dayTo 31 = .ok (.iload_n 2, 1) := by decide +kernel
theorem dX12_dayTo_32 : decode cX12_dayTo 32 = .ok (.imul, 1) := by decide +kernel
theorem dX12_dayTo_33 : decode cX12_dayTo 33 = .ok (.ishl, 1) := by decide +kernel
theorem dX12_dayTo_34 : decode cX12_dayTo 34 = .ok (.iadd, 1) := by decide +kernel
theorem dX12_dayTo_35 : decode cX12_dayTo 35 = .ok (.istore_n 1, 1) := by decide +kernel
theorem dX12_dayTo_36 : decode cX12_dayTo 36 = .ok (.iinc 2 1, 3) := by decide +kernel
theorem dX12_dayTo_39 : decode cX12_dayTo 39 = .ok (.goto (-35), 3) := by decide +kernel
theorem dX12_dayTo_42 : decode cX12_dayTo 42 = .ok (.iload_n 1, 1) := by decide +kernel
theorem dX12_dayTo_43 : decode cX12_dayTo 43 = .ok (.ireturn, 1) := by decide +kernel
theorem dX12_doesIn_0 : decode cX12_doesIn 0 = .ok (.iconst 0, 1) := by decide +kernel
theorem dX12_doesIn_1 : decode cX12_doesIn 1 = .ok (.istore 4, 2) := by decide +kernel
theorem dX12_doesIn_3 : decode cX12_doesIn 3 = .ok (.iload 4, 2) := by decide +kernel
theorem dX12_doesIn_5 : decode cX12_doesIn 5 = .ok (.aload_n 0, 1) := by decide +kernel
theorem dX12_doesIn_6 : decode cX12_doesIn 6 = .ok (.getfield 13, 3) := by decide +kernel
theorem dX12_doesIn_9 : decode cX12_doesIn 9 = .ok (.iconst 1, 1) := by decide +kernel
theorem dX12_doesIn_10 : decode cX12_doesIn 10 = .ok (.iaload, 1) := by decide +kernel
theorem dX12_doesIn_11 : decode cX12_doesIn 11 = .ok (.if_icmp .ge 63, 3) := by decide +kernel
theorem dX12_doesIn_14 : decode cX12_doesIn 14 = .ok (.iload_n 1, 1) := by decide +kernel
theorem dX12_doesIn_15 : decode cX12_doesIn 15 = .ok (.iload_n 2, 1) := by decide +kernel
theorem dX12_doesIn_16 : decode cX12_doesIn 16 = .ok (.iload 4, 2) := by decide +kernel
theorem dX12_doesIn_18 : decode cX12_doesIn 18 = .ok (.invokestatic 214, 3) := by decide +kernel
theorem dX12_doesIn_21 : decode cX12_doesIn 21 = .ok (.aload_n 0, 1) := by decide +kernel
theorem dX12_doesIn_22 : decode cX12_doesIn 22 = .ok (.getfield 13, 3) := by decide +kernel
theorem dX12_doesIn_25 : decode cX12_doesIn 25 = .ok (.bipush 13, 2) := by decide +kernel
theorem dX12_doesIn_27 : decode cX12_doesIn 27 = .ok (.iconst 4, 1) := by decide +kernel
theorem dX12_doesIn_28 : decode cX12_doesIn 28 = .ok (.iload_n 3, 1) := by decide +kernel
theorem dX12_doesIn_29 : decode cX12_doesIn 29 = .ok (.imul, 1) := by decide +kernel
theorem dX12_doesIn_30 : decode cX12_doesIn 30 = .ok (.iadd, 1) := by decide +kernel
theorem dX12_doesIn_31 : decode cX12_doesIn 31 = .ok (.iload 4, 2) := by decide +kernel
theorem dX12_doesIn_33 : decode cX12_doesIn 33 = .ok (.iadd, 1) := by decide +kernel
theorem dX12_doesIn_34 : decode cX12_doesIn 34 = .ok (.iaload, 1) := by decide +kernel
theorem dX12_doesIn_35 : decode cX12_doesIn 35 = .ok (.if_icmp .lt 31, 3) := by decide +kernel
theorem dX12_doesIn_38 : decode cX12_doesIn 38 = .ok (.aload_n 0, 1) := by decide +kernel
theorem dX12_doesIn_39 : decode cX12_doesIn 39 = .ok (.getfield 13, 3) := by decide +kernel
theorem dX12_doesIn_42 : decode cX12_doesIn 42 = .ok (.bipush 37, 2) := by decide +kernel
theorem dX12_doesIn_44 : decode cX12_doesIn 44 = .ok (.iload_n 3, 1) := by decide +kernel
theorem dX12_doesIn_45 : decode cX12_doesIn 45 = .ok (.iadd, 1) := by decide +kernel
theorem dX12_doesIn_46 : decode cX12_doesIn 46 = .ok (.iaload, 1) := by decide +kernel
theorem dX12_doesIn_47 : decode cX12_doesIn 47 = .ok (.i2l, 1) := by decide +kernel
theorem dX12_doesIn_48 : decode cX12_doesIn 48 = .ok (.iload 4, 2) := by decide +kernel
theorem dX12_doesIn_50 : decode cX12_doesIn 50 = .ok (.invokestatic 236, 3) := by decide +kernel
theorem dX12_doesIn_53 : decode cX12_doesIn 53 = .ok (.ifCond .eq 15, 3) := by decide +kernel
theorem dX12_doesIn_56 : decode cX12_doesIn 56 = .ok (.iload_n 1, 1) := by decide +kernel
theorem dX12_doesIn_57 : decode cX12_doesIn 57 = .ok (.iload_n 2, 1) := by decide +kernel
theorem dX12_doesIn_58 : decode cX12_doesIn 58 = .ok (.iload 4, 2) := by decide +kernel
theorem dX12_doesIn_60 : decode cX12_doesIn 60 = .ok (.invokestatic 214, 3) := by decide +kernel
theorem dX12_doesIn_63 : decode cX12_doesIn 63 = .ok (.ifCond .le 5, 3) := by decide +kernel
theorem dX12_doesIn_66 : decode cX12_doesIn 66 = .ok (.iconst 0, 1) := by decide +kernel
theorem dX12_doesIn_67 : decode cX12_doesIn 67 = .ok (.ireturn, 1) := by decide +kernel
theorem dX12_doesIn_68 : decode cX12_doesIn 68 = .ok (.iinc 4 1, 3) := by decide +kernel
theorem dX12_doesIn_71 : decode cX12_doesIn 71 = .ok (.goto (-68), 3) := by decide +kernel
theorem dX12_doesIn_74 : decode cX12_doesIn 74 = .ok (.iconst 1, 1) := by decide +kernel
theorem dX12_doesIn_75 : decode cX12_doesIn 75 = .ok (.ireturn, 1) := by decide +kernel
theorem dX12_doesAll_0 : decode cX12_doesAll 0 = .ok (.iconst 0, 1) := by decide +kernel
theorem dX12_doesAll_1 : decode cX12_doesAll 1 = .ok (.istore_n 3, 1) := by decide +kernel
theorem dX12_doesAll_2 : decode cX12_doesAll 2 = .ok (.iconst 0, 1) := by decide +kernel
theorem dX12_doesAll_3 : decode cX12_doesAll 3 = .ok (.istore 4, 2) := by decide +kernel
theorem dX12_doesAll_5 : decode cX12_doesAll 5 = .ok (.iload 4, 2) := by decide +kernel
theorem dX12_doesAll_7 : decode cX12_doesAll 7 = .ok (.aload_n 0, 1) := by decide +kernel
theorem dX12_doesAll_8 : decode cX12_doesAll 8 = .ok (.getfield 13, 3) := by decide +kernel
theorem dX12_doesAll_11 : decode cX12_doesAll 11 = .ok (.iconst 2, 1) := by decide +kernel
theorem dX12_doesAll_12 : decode cX12_doesAll 12 = .ok (.iaload, 1) := by decide +kernel
theorem dX12_doesAll_13 : decode cX12_doesAll 13 = .ok (.if_icmp .ge 31, 3) := by decide +kernel
theorem dX12_doesAll_16 : decode cX12_doesAll 16 = .ok (.iload_n 3, 1) := by decide +kernel
theorem dX12_doesAll_17 : decode cX12_doesAll 17 = .ok (.aload_n 0, 1) := by decide +kernel
theorem dX12_doesAll_18 : decode cX12_doesAll 18 = .ok (.iload_n 1, 1) := by decide +kernel
theorem dX12_doesAll_19 : decode cX12_doesAll 19 = .ok (.iload_n 2, 1) := by decide +kernel
theorem dX12_doesAll_20 : decode cX12_doesAll 20 = .ok (.iload 4, 2) := by decide +kernel
theorem dX12_doesAll_22 : decode cX12_doesAll 22 = .ok (.invokevirtual 240, 3) := by decide +kernel
theorem dX12_doesAll_25 : decode cX12_doesAll 25 = .ok (.ifCond .eq 10, 3) := by decide +kernel
theorem dX12_doesAll_28 : decode cX12_doesAll 28 = .ok (.iconst 1, 1) := by decide +kernel
theorem dX12_doesAll_29 : decode cX12_doesAll 29 = .ok (.iload 4, 2) := by decide +kernel
theorem dX12_doesAll_31 : decode cX12_doesAll 31 = .ok (.ishl, 1) := by decide +kernel
theorem dX12_doesAll_32 : decode cX12_doesAll 32 = .ok (.goto 4, 3) := by decide +kernel
theorem dX12_doesAll_35 : decode cX12_doesAll 35 = .ok (.iconst 0, 1) := by decide +kernel
theorem dX12_doesAll_36 : decode cX12_doesAll 36 = .ok (.ior, 1) := by decide +kernel
theorem dX12_doesAll_37 : decode cX12_doesAll 37 = .ok (.istore_n 3, 1) := by decide +kernel
theorem dX12_doesAll_38 : decode cX12_doesAll 38 = .ok (.iinc 4 1, 3) := by decide +kernel
theorem dX12_doesAll_41 : decode cX12_doesAll 41 = .ok (.goto (-36), 3) := by decide +kernel
theorem dX12_doesAll_44 : decode cX12_doesAll 44 = .ok (.iload_n 3, 1) := by decide +kernel
theorem dX12_doesAll_45 : decode cX12_doesAll 45 = .ok (.ireturn, 1) := by decide +kernel
theorem dX12_doesBoth_0 : decode cX12_doesBoth 0 = .ok (.aload_n 0, 1) := by decide +kernel
theorem dX12_doesBoth_1 : decode cX12_doesBoth 1 = .ok (.iload_n 1, 1) := by decide +kernel
theorem dX12_doesBoth_2 : decode cX12_doesBoth 2 = .ok (.iconst 0, 1) := by decide +kernel
theorem dX12_doesBoth_3 : decode cX12_doesBoth 3 = .ok (.invokevirtual 244, 3) := by decide +kernel
theorem dX12_doesBoth_6 : decode cX12_doesBoth 6 = .ok (.invokestatic 247, 3) := by decide +kernel
theorem dX12_doesBoth_9 : decode cX12_doesBoth 9 = .ok (.aload_n 0, 1) := by decide +kernel
theorem dX12_doesBoth_10 : decode cX12_doesBoth 10 = .ok (.iload_n 1, 1) := by decide +kernel
theorem dX12_doesBoth_11 : decode cX12_doesBoth 11 = .ok (.iconst 1, 1) := by decide +kernel
theorem dX12_doesBoth_12 : decode cX12_doesBoth 12 = .ok (.invokevirtual 244, 3) := by decide +kernel
theorem dX12_doesBoth_15 : decode cX12_doesBoth 15 = .ok (.invokestatic 247, 3) := by decide +kernel
theorem dX12_doesBoth_18 : decode cX12_doesBoth 18 = .ok (.iadd, 1) := by decide +kernel
theorem dX12_doesBoth_19 : decode cX12_doesBoth 19 = .ok (.ireturn, 1) := by decide +kernel
theorem dX12_age_0 : decode cX12_age 0 = .ok (.aload_n 0, 1) := by decide +kernel
theorem dX12_age_1 : decode cX12_age 1 = .ok (.iconst 0, 1) := by decide +kernel
theorem dX12_age_2 : decode cX12_age 2 = .ok (.putfield 1, 3) := by decide +kernel
theorem dX12_age_5 : decode cX12_age 5 = .ok (.iload_n 1, 1) := by decide +kernel
theorem dX12_age_6 : decode cX12_age 6 = .ok (.i2l, 1) := by decide +kernel
theorem dX12_age_7 : decode cX12_age 7 = .ok (.invokestatic 250, 3) := by decide +kernel
theorem dX12_age_10 : decode cX12_age 10 = .ok (.ifCond .eq 28, 3) := by decide +kernel
theorem dX12_age_13 : decode cX12_age 13 = .ok (.aload_n 0, 1) := by decide +kernel
theorem dX12_age_14 : decode cX12_age 14 = .ok (.iload_n 2, 1) := by decide +kernel
theorem dX12_age_15 : decode cX12_age 15 = .ok (.i2l, 1) := by decide +kernel
theorem dX12_age_16 : decode cX12_age 16 = .ok (.invokevirtual 254, 3) := by decide +kernel
theorem dX12_age_19 : decode cX12_age 19 = .ok (.ifCond .eq 19, 3) := by decide +kernel
theorem dX12_age_22 : decode cX12_age 22 = .ok (.aload_n 0, 1) := by decide +kernel
theorem dX12_age_23 : decode cX12_age 23 = .ok (.getfield 13, 3) := by decide +kernel
theorem dX12_age_26 : decode cX12_age 26 = .ok (.bipush 43, 2) := by decide +kernel
theorem dX12_age_28 : decode cX12_age 28 = .ok (.iconst 4, 1) := by decide +kernel
theorem dX12_age_29 : decode cX12_age 29 = .ok (.iload_n 1, 1) := by decide +kernel
theorem dX12_age_30 : decode cX12_age 30 = .ok (.imul, 1) := by decide +kernel
theorem dX12_age_31 : decode cX12_age 31 = .ok (.iadd, 1) := by decide +kernel
theorem dX12_age_32 : decode cX12_age 32 = .ok (.iload_n 2, 1) := by decide +kernel
theorem dX12_age_33 : decode cX12_age 33 = .ok (.iadd, 1) := by decide +kernel
theorem dX12_age_34 : decode cX12_age 34 = .ok (.iaload, 1) := by decide +kernel
theorem dX12_age_35 : decode cX12_age 35 = .ok (.goto 5, 3) := by decide +kernel
theorem dX12_age_38 : decode cX12_age 38 = .ok (.bipush (-2), 2) := by decide +kernel
theorem dX12_age_40 : decode cX12_age 40 = .ok (.ireturn, 1) := by decide +kernel
theorem dX12_doing_0 : decode cX12_doing 0 = .ok (.aload_n 0, 1) := by decide +kernel
theorem dX12_doing_1 : decode cX12_doing 1 = .ok (.iconst 0, 1) := by decide +kernel
theorem dX12_doing_2 : decode cX12_doing 2 = .ok (.putfield 1, 3) := by decide +kernel
theorem dX12_doing_5 : decode cX12_doing 5 = .ok (.aload_n 0, 1) := by decide +kernel
theorem dX12_doing_6 : decode cX12_doing 6 = .ok (.iload_n 1, 1) := by decide +kernel
theorem dX12_doing_7 : decode cX12_doing 7 = .ok (.invokevirtual 257, 3) := by decide +kernel
theorem dX12_doing_10 : decode cX12_doing 10 = .ok (.ifCond .ne 6, 3) := by decide +kernel
theorem dX12_doing_13 : decode cX12_doing 13 = .ok (.bipush (-2), 2) := by decide +kernel
theorem dX12_doing_15 : decode cX12_doing 15 = .ok (.ireturn, 1) := by decide +kernel
theorem dX12_doing_16 : decode cX12_doing 16 = .ok (.iload_n 2, 1) := by decide +kernel
theorem dX12_doing_17 : decode cX12_doing 17 = .ok (.ifCond .ne 55, 3) := by decide +kernel
theorem dX12_doing_20 : decode cX12_doing 20 = .ok (.iconst 0, 1) := by decide +kernel
theorem dX12_doing_21 : decode cX12_doing 21 = .ok (.istore_n 3, 1) := by decide +kernel
theorem dX12_doing_22 : decode cX12_doing 22 = .ok (.iconst 0, 1) := by decide +kernel
theorem dX12_doing_23 : decode cX12_doing 23 = .ok (.istore 4, 2) := by decide +kernel
theorem dX12_doing_25 : decode cX12_doing 25 = .ok (.iload 4, 2) := by decide +kernel
theorem dX12_doing_27 : decode cX12_doing 27 = .ok (.aload_n 0, 1) := by decide +kernel
theorem dX12_doing_28 : decode cX12_doing 28 = .ok (.getfield 13, 3) := by decide +kernel
theorem dX12_doing_31 : decode cX12_doing 31 = .ok (.iconst 1, 1) := by decide +kernel
theorem dX12_doing_32 : decode cX12_doing 32 = .ok (.iaload, 1) := by decide +kernel
theorem dX12_doing_33 : decode cX12_doing 33 = .ok (.if_icmp .ge 37, 3) := by decide +kernel
theorem dX12_doing_36 : decode cX12_doing 36 = .ok (.iload_n 3, 1) := by decide +kernel
theorem dX12_doing_37 : decode cX12_doing 37 = .ok (.aload_n 0, 1) := by decide +kernel
theorem dX12_doing_38 : decode cX12_doing 38 = .ok (.getfield 13, 3) := by decide +kernel
theorem dX12_doing_41 : decode cX12_doing 41 = .ok (.bipush 13, 2) := by decide +kernel
theorem dX12_doing_43 : decode cX12_doing 43 = .ok (.iconst 4, 1) := by decide +kernel
theorem dX12_doing_44 : decode cX12_doing 44 = .ok (.iload_n 1, 1) := by decide +kernel
theorem dX12_doing_45 : decode cX12_doing 45 = .ok (.imul, 1) := by decide +kernel
theorem dX12_doing_46 : decode cX12_doing 46 = .ok (.iadd, 1) := by decide +kernel
theorem dX12_doing_47 : decode cX12_doing 47 = .ok (.iload 4, 2) := by decide +kernel
theorem dX12_doing_49 : decode cX12_doing 49 = .ok (.iadd, 1) := by decide +kernel
theorem dX12_doing_50 : decode cX12_doing 50 = .ok (.iaload, 1) := by decide +kernel
theorem dX12_doing_51 : decode cX12_doing 51 = .ok (.ifCond .le 10, 3) := by decide +kernel
theorem dX12_doing_54 : decode cX12_doing 54 = .ok (.iconst 1, 1) := by decide +kernel
theorem dX12_doing_55 : decode cX12_doing 55 = .ok (.iload 4, 2) := by decide +kernel
theorem dX12_doing_57 : decode cX12_doing 57 = .ok (.ishl, 1) := by decide +kernel
theorem dX12_doing_58 : decode cX12_doing 58 = .ok (.goto 4, 3) := by decide +kernel
theorem dX12_doing_61 : decode cX12_doing 61 = .ok (.iconst 0, 1) := by decide +kernel
theorem dX12_doing_62 : decode cX12_doing 62 = .ok (.ior, 1) := by decide +kernel
theorem dX12_doing_63 : decode cX12_doing 63 = .ok (.istore_n 3, 1) := by decide +kernel
theorem dX12_doing_64 : decode cX12_doing 64 = .ok (.iinc 4 1, 3) := by decide +kernel
theorem dX12_doing_67 : decode cX12_doing 67 = .ok (.goto (-42), 3) := by decide +kernel
theorem dX12_doing_70 : decode cX12_doing 70 = .ok (.iload_n 3, 1) := by decide +kernel
theorem dX12_doing_71 : decode cX12_doing 71 = .ok (.ireturn, 1) := by decide +kernel
theorem dX12_doing_72 : decode cX12_doing 72 = .ok (.iload_n 2, 1) := by decide +kernel
theorem dX12_doing_73 : decode cX12_doing 73 = .ok (.iconst 1, 1) := by decide +kernel
theorem dX12_doing_74 : decode cX12_doing 74 = .ok (.if_icmp .ne 13, 3) := by decide +kernel
theorem dX12_doing_77 : decode cX12_doing 77 = .ok (.aload_n 0, 1) := by decide +kernel
theorem dX12_doing_78 : decode cX12_doing 78 = .ok (.getfield 13, 3) := by decide +kernel
theorem dX12_doing_81 : decode cX12_doing 81 = .ok (.bipush 37, 2) := by decide +kernel
theorem dX12_doing_83 : decode cX12_doing 83 = .ok (.iload_n 1, 1) := by decide +kernel
theorem dX12_doing_84 : decode cX12_doing 84 = .ok (.iadd, 1) := by decide +kernel
theorem dX12_doing_85 : decode cX12_doing 85 = .ok (.iaload, 1) := by decide +kernel
theorem dX12_doing_86 : decode cX12_doing 86 = .ok (.ireturn, 1) := by decide +kernel
theorem dX12_doing_87 : decode cX12_doing 87 = .ok (.iload_n 2, 1) := by decide +kernel
theorem dX12_doing_88 : decode cX12_doing 88 = .ok (.iconst 2, 1) := by decide +kernel
theorem dX12_doing_89 : decode cX12_doing 89 = .ok (.if_icmp .ne 41, 3) := by decide +kernel
theorem dX12_doing_92 : decode cX12_doing 92 = .ok (.aload_n 0, 1) := by decide +kernel
theorem dX12_doing_93 : decode cX12_doing 93 = .ok (.aload_n 0, 1) := by decide +kernel
theorem dX12_doing_94 : decode cX12_doing 94 = .ok (.invokevirtual 260, 3) := by decide +kernel
theorem dX12_doing_97 : decode cX12_doing 97 = .ok (.iconst 0, 1) := by decide +kernel
theorem dX12_doing_98 : decode cX12_doing 98 = .ok (.iload_n 1, 1) := by decide +kernel
theorem dX12_doing_99 : decode cX12_doing 99 = .ok (.invokevirtual 240, 3) := by decide +kernel
theorem dX12_doing_102 : decode cX12_doing 102 = .ok (.ifCond .eq 7, 3) := by decide +kernel
theorem dX12_doing_105 : decode cX12_doing 105 = .ok (.iconst 1, 1) := by decide +kernel
theorem dX12_doing_106 : decode cX12_doing 106 = .ok (.goto 4, 3) := by decide +kernel
theorem dX12_doing_109 : decode cX12_doing 109 = .ok (.iconst 0, 1) := by decide +kernel
theorem dX12_doing_110 : decode cX12_doing 110 = .ok (.aload_n 0, 1) := by decide +kernel
theorem dX12_doing_111 : decode cX12_doing 111 = .ok (.aload_n 0, 1) := by decide +kernel
theorem dX12_doing_112 : decode cX12_doing 112 = .ok (.invokevirtual 260, 3) := by decide +kernel
theorem dX12_doing_115 : decode cX12_doing 115 = .ok (.iconst 1, 1) := by decide +kernel
theorem dX12_doing_116 : decode cX12_doing 116 = .ok (.iload_n 1, 1) := by decide +kernel
theorem dX12_doing_117 : decode cX12_doing 117 = .ok (.invokevirtual 240, 3) := by decide +kernel
theorem dX12_doing_120 : decode cX12_doing 120 = .ok (.ifCond .eq 7, 3) := by decide +kernel
theorem dX12_doing_123 : decode cX12_doing 123 = .ok (.iconst 2, 1) := by decide +kernel
theorem dX12_doing_124 : decode cX12_doing 124 = .ok (.goto 4, 3) := by decide +kernel
theorem dX12_doing_127 : decode cX12_doing 127 = .ok (.iconst 0, 1) := by decide +kernel
theorem dX12_doing_128 : decode cX12_doing 128 = .ok (.iadd, 1) := by decide +kernel
theorem dX12_doing_129 : decode cX12_doing 129 = .ok (.ireturn, 1) := by decide +kernel
theorem dX12_doing_130 : decode cX12_doing 130 = .ok (.iload_n 2, 1) := by decide +kernel
theorem dX12_doing_131 : decode cX12_doing 131 = .ok (.bipush 10, 2) := by decide +kernel
theorem dX12_doing_133 : decode cX12_doing 133 = .ok (.if_icmp .lt 34, 3) := by decide +kernel
theorem dX12_doing_136 : decode cX12_doing 136 = .ok (.aload_n 0, 1) := by decide +kernel
theorem dX12_doing_137 : decode cX12_doing 137 = .ok (.iload_n 2, 1) := by decide +kernel
theorem dX12_doing_138 : decode cX12_doing 138 = .ok (.bipush 10, 2) := by decide +kernel
theorem dX12_doing_140 : decode cX12_doing 140 = .ok (.isub, 1) := by decide +kernel
theorem dX12_doing_141 : decode cX12_doing 141 = .ok (.i2l, 1) := by decide +kernel
theorem dX12_doing_142 : decode cX12_doing 142 = .ok (.invokevirtual 254, 3) := by decide +kernel
theorem dX12_doing_145 : decode cX12_doing 145 = .ok (.ifCond .eq 22, 3) := by decide +kernel
theorem dX12_doing_148 : decode cX12_doing 148 = .ok (.aload_n 0, 1) := by decide +kernel
theorem dX12_doing_149 : decode cX12_doing 149 = .ok (.getfield 13, 3) := by decide +kernel
theorem dX12_doing_152 : decode cX12_doing 152 = .ok (.bipush 13, 2) := by decide +kernel
theorem dX12_doing_154 : decode cX12_doing 154 = .ok (.iconst 4, 1) := by decide +kernel
theorem dX12_doing_155 : decode cX12_doing 155 = .ok (.iload_n 1, 1) := by decide +kernel
theorem dX12_doing_156 : decode cX12_doing 156 = .ok (.imul, 1) := by decide +kernel
theorem dX12_doing_157 : decode cX12_doing 157 = .ok (.iadd, 1) := by decide +kernel
theorem dX12_doing_158 : decode cX12_doing 158 = .ok (.iload_n 2, 1) := by decide +kernel
theorem dX12_doing_159 : decode cX12_doing 159 = .ok (.iadd, 1) := by decide +kernel
theorem dX12_doing_160 : decode cX12_doing 160 = .ok (.bipush 10, 2) := by decide +kernel
theorem dX12_doing_162 : decode cX12_doing 162 = .ok (.isub, 1) := by decide +kernel
theorem dX12_doing_163 : decode cX12_doing 163 = .ok (.iaload, 1) := by decide +kernel
theorem dX12_doing_164 : decode cX12_doing 164 = .ok (.goto 5, 3) := by decide +kernel
theorem dX12_doing_167 : decode cX12_doing 167 = .ok (.bipush (-2), 2) := by decide +kernel
theorem dX12_doing_169 : decode cX12_doing 169 = .ok (.ireturn, 1) := by decide +kernel
theorem dX12_does_0 : decode cX12_does 0 = .ok (.aload_n 0, 1) := by decide +kernel
theorem dX12_does_1 : decode cX12_does 1 = .ok (.iconst 0, 1) := by decide +kernel
theorem dX12_does_2 : decode cX12_does 2 = .ok (.putfield 1, 3) := by decide +kernel
theorem dX12_does_5 : decode cX12_does 5 = .ok (.iload_n 1, 1) := by decide +kernel
theorem dX12_does_6 : decode cX12_does 6 = .ok (.i2l, 1) := by decide +kernel
theorem dX12_does_7 : decode cX12_does 7 = .ok (.invokestatic 250, 3) := by decide +kernel
theorem dX12_does_10 : decode cX12_does 10 = .ok (.ifCond .eq 15, 3) := by decide +kernel
theorem dX12_does_13 : decode cX12_does 13 = .ok (.aload_n 0, 1) := by decide +kernel
theorem dX12_does_14 : decode cX12_does 14 = .ok (.aload_n 0, 1) := by decide +kernel
theorem dX12_does_15 : decode cX12_does 15 = .ok (.invokevirtual 260, 3) := by decide +kernel
theorem dX12_does_18 : decode cX12_does 18 = .ok (.iload_n 1, 1) := by decide +kernel
theorem dX12_does_19 : decode cX12_does 19 = .ok (.invokevirtual 244, 3) := by decide +kernel
theorem dX12_does_22 : decode cX12_does 22 = .ok (.goto 5, 3) := by decide +kernel
theorem dX12_does_25 : decode cX12_does 25 = .ok (.bipush (-2), 2) := by decide +kernel
theorem dX12_does_27 : decode cX12_does 27 = .ok (.ireturn, 1) := by decide +kernel
theorem dX12_brings_0 : decode cX12_brings 0 = .ok (.aload_n 0, 1) := by decide +kernel
theorem dX12_brings_1 : decode cX12_brings 1 = .ok (.iconst 0, 1) := by decide +kernel
theorem dX12_brings_2 : decode cX12_brings 2 = .ok (.putfield 1, 3) := by decide +kernel
theorem dX12_brings_5 : decode cX12_brings 5 = .ok (.iload_n 1, 1) := by decide +kernel
theorem dX12_brings_6 : decode cX12_brings 6 = .ok (.i2l, 1) := by decide +kernel
theorem dX12_brings_7 : decode cX12_brings 7 = .ok (.invokestatic 250, 3) := by decide +kernel
theorem dX12_brings_10 : decode cX12_brings 10 = .ok (.ifCond .eq 20, 3) := by decide +kernel
theorem dX12_brings_13 : decode cX12_brings 13 = .ok (.aload_n 0, 1) := by decide +kernel
theorem dX12_brings_14 : decode cX12_brings 14 = .ok (.iload_n 2, 1) := by decide +kernel
theorem dX12_brings_15 : decode cX12_brings 15 = .ok (.i2l, 1) := by decide +kernel
theorem dX12_brings_16 : decode cX12_brings 16 = .ok (.invokevirtual 254, 3) := by decide +kernel
theorem dX12_brings_19 : decode cX12_brings 19 = .ok (.ifCond .eq 11, 3) := by decide +kernel
theorem dX12_brings_22 : decode cX12_brings 22 = .ok (.iload_n 3, 1) := by decide +kernel
theorem dX12_brings_23 : decode cX12_brings 23 = .ok (.i2l, 1) := by decide +kernel
theorem dX12_brings_24 : decode cX12_brings 24 = .ok (.invokestatic 250, 3) := by decide +kernel
theorem dX12_brings_27 : decode cX12_brings 27 = .ok (.ifCond .ne 6, 3) := by decide +kernel
theorem dX12_brings_30 : decode cX12_brings 30 = .ok (.bipush (-2), 2) := by decide +kernel
theorem dX12_brings_32 : decode cX12_brings 32 = .ok (.ireturn, 1) := by decide +kernel
theorem dX12_brings_33 : decode cX12_brings 33 = .ok (.aload_n 0, 1) := by decide +kernel
theorem dX12_brings_34 : decode cX12_brings 34 = .ok (.aload_n 0, 1) := by decide +kernel
theorem dX12_brings_35 : decode cX12_brings 35 = .ok (.invokevirtual 260, 3) := by decide +kernel
theorem dX12_brings_38 : decode cX12_brings 38 = .ok (.iload_n 1, 1) := by decide +kernel
theorem dX12_brings_39 : decode cX12_brings 39 = .ok (.iload_n 2, 1) := by decide +kernel
theorem dX12_brings_40 : decode cX12_brings 40 = .ok (.invokevirtual 263, 3) := by decide +kernel
theorem dX12_brings_43 : decode cX12_brings 43 = .ok (.ifCond .eq 21, 3) := by decide +kernel
theorem dX12_brings_46 : decode cX12_brings 46 = .ok (.aload_n 0, 1) := by decide +kernel
theorem dX12_brings_47 : decode cX12_brings 47 = .ok (.aload_n 0, 1) := by decide +kernel
theorem dX12_brings_48 : decode cX12_brings 48 = .ok (.invokevirtual 260, 3) := by decide +kernel
theorem dX12_brings_51 : decode cX12_brings 51 = .ok (.iload_n 1, 1) := by decide +kernel
theorem dX12_brings_52 : decode cX12_brings 52 = .ok (.iload_n 2, 1) := by decide +kernel
theorem dX12_brings_53 : decode cX12_brings 53 = .ok (.invokevirtual 266, 3) := by decide +kernel
theorem dX12_brings_56 : decode cX12_brings 56 = .ok (.iload_n 3, 1) := by decide +kernel
theorem dX12_brings_57 : decode cX12_brings 57 = .ok (.iload_n 2, 1) := by decide +kernel
theorem dX12_brings_58 : decode cX12_brings 58 = .ok (.invokestatic 214, 3) := by decide +kernel
theorem dX12_brings_61 : decode cX12_brings 61 = .ok (.goto 5, 3) := by decide +kernel
theorem dX12_brings_64 : decode cX12_brings 64 = .ok (.bipush (-5), 2) := by decide +kernel
theorem dX12_brings_66 : decode cX12_brings 66 = .ok (.ireturn, 1) := by decide +kernel
theorem dX12_keeps_0 : decode cX12_keeps 0 = .ok (.iconst 0, 1) := by decide +kernel
theorem dX12_keeps_1 : decode cX12_keeps 1 = .ok (.istore_n 1, 1) := by decide +kernel
theorem dX12_keeps_2 : decode cX12_keeps 2 = .ok (.iload_n 1, 1) := by decide +kernel
theorem dX12_keeps_3 : decode cX12_keeps 3 = .ok (.bipush 9, 2) := by decide +kernel
theorem dX12_keeps_5 : decode cX12_keeps 5 = .ok (.if_icmp .ge 24, 3) := by decide +kernel
theorem dX12_keeps_8 : decode cX12_keeps 8 = .ok (.aload_n 0, 1) := by decide +kernel
theorem dX12_keeps_9 : decode cX12_keeps 9 = .ok (.getfield 36, 3) := by decide +kernel
theorem dX12_keeps_12 : decode cX12_keeps 12 = .ok (.iload_n 1, 1) := by decide +kernel
theorem dX12_keeps_13 : decode cX12_keeps 13 = .ok (.aload_n 0, 1) := by decide +kernel
theorem dX12_keeps_14 : decode cX12_keeps 14 = .ok (.getfield 13, 3) := by decide +kernel
theorem dX12_keeps_17 : decode cX12_keeps 17 = .ok (.bipush 43, 2) := by decide +kernel
theorem dX12_keeps_19 : decode cX12_keeps 19 = .ok (.iload_n 1, 1) := by decide +kernel
theorem dX12_keeps_20 : decode cX12_keeps 20 = .ok (.iadd, 1) := by decide +kernel
theorem dX12_keeps_21 : decode cX12_keeps 21 = .ok (.iaload, 1) := by decide +kernel
theorem dX12_keeps_22 : decode cX12_keeps 22 = .ok (.iastore, 1) := by decide +kernel
theorem dX12_keeps_23 : decode cX12_keeps 23 = .ok (.iinc 1 1, 3) := by decide +kernel
theorem dX12_keeps_26 : decode cX12_keeps 26 = .ok (.goto (-24), 3) := by decide +kernel
theorem dX12_keeps_29 : decode cX12_keeps 29 = .ok (.return_, 1) := by decide +kernel
theorem dX12_isAgain_0 : decode cX12_isAgain 0 = .ok (.iconst 0, 1) := by decide +kernel
theorem dX12_isAgain_1 : decode cX12_isAgain 1 = .ok (.istore_n 1, 1) := by decide +kernel
theorem dX12_isAgain_2 : decode cX12_isAgain 2 = .ok (.iload_n 1, 1) := by decide +kernel
theorem dX12_isAgain_3 : decode cX12_isAgain 3 = .ok (.bipush 9, 2) := by decide +kernel
theorem dX12_isAgain_5 : decode cX12_isAgain 5 = .ok (.if_icmp .ge 24, 3) := by decide +kernel
theorem dX12_isAgain_8 : decode cX12_isAgain 8 = .ok (.aload_n 0, 1) := by decide +kernel
theorem dX12_isAgain_9 : decode cX12_isAgain 9 = .ok (.getfield 13, 3) := by decide +kernel
theorem dX12_isAgain_12 : decode cX12_isAgain 12 = .ok (.bipush 43, 2) := by decide +kernel
theorem dX12_isAgain_14 : decode cX12_isAgain 14 = .ok (.iload_n 1, 1) := by decide +kernel
theorem dX12_isAgain_15 : decode cX12_isAgain 15 = .ok (.iadd, 1) := by decide +kernel
theorem dX12_isAgain_16 : decode cX12_isAgain 16 = .ok (.aload_n 0, 1) := by decide +kernel
theorem dX12_isAgain_17 : decode cX12_isAgain 17 = .ok (.getfield 36, 3) := by decide +kernel
theorem dX12_isAgain_20 : decode cX12_isAgain 20 = .ok (.iload_n 1, 1) := by decide +kernel
theorem dX12_isAgain_21 : decode cX12_isAgain 21 = .ok (.iaload, 1) := by decide +kernel
theorem dX12_isAgain_22 : decode cX12_isAgain 22 = .ok (.iastore, 1) := by decide +kernel
theorem dX12_isAgain_23 : decode cX12_isAgain 23 = .ok (.iinc 1 1, 3) := by decide +kernel
theorem dX12_isAgain_26 : decode cX12_isAgain 26 = .ok (.goto (-24), 3) := by decide +kernel
theorem dX12_isAgain_29 : decode cX12_isAgain 29 = .ok (.return_, 1) := by decide +kernel
theorem dX12_notes_0 : decode cX12_notes 0 = .ok (.aload_n 0, 1) := by decide +kernel
theorem dX12_notes_1 : decode cX12_notes 1 = .ok (.getfield 13, 3) := by decide +kernel
theorem dX12_notes_4 : decode cX12_notes 4 = .ok (.bipush 52, 2) := by decide +kernel
theorem dX12_notes_6 : decode cX12_notes 6 = .ok (.iaload, 1) := by decide +kernel
theorem dX12_notes_7 : decode cX12_notes 7 = .ok (.bipush 10, 2) := by decide +kernel
theorem dX12_notes_9 : decode cX12_notes 9 = .ok (.if_icmp .ne 46, 3) := by decide +kernel
theorem dX12_notes_12 : decode cX12_notes 12 = .ok (.iconst 0, 1) := by decide +kernel
theorem dX12_notes_13 : decode cX12_notes 13 = .ok (.istore_n 1, 1) := by decide +kernel
theorem dX12_notes_14 : decode cX12_notes 14 = .ok (.iload_n 1, 1) := by decide +kernel
theorem dX12_notes_15 : decode cX12_notes 15 = .ok (.bipush 81, 2) := by decide +kernel
theorem dX12_notes_17 : decode cX12_notes 17 = .ok (.if_icmp .ge 27, 3) := by decide +kernel
theorem dX12_notes_20 : decode cX12_notes 20 = .ok (.aload_n 0, 1) := by decide +kernel
theorem dX12_notes_21 : decode cX12_notes 21 = .ok (.getfield 13, 3) := by decide +kernel
theorem dX12_notes_24 : decode cX12_notes 24 = .ok (.bipush 53, 2) := by decide +kernel
theorem dX12_notes_26 : decode cX12_notes 26 = .ok (.iload_n 1, 1) := by decide +kernel
theorem dX12_notes_27 : decode cX12_notes 27 = .ok (.iadd, 1) := by decide +kernel
theorem dX12_notes_28 : decode cX12_notes 28 = .ok (.aload_n 0, 1) := by decide +kernel
theorem dX12_notes_29 : decode cX12_notes 29 = .ok (.getfield 13, 3) := by decide +kernel
theorem dX12_notes_32 : decode cX12_notes 32 = .ok (.bipush 62, 2) := by decide +kernel
theorem dX12_notes_34 : decode cX12_notes 34 = .ok (.iload_n 1, 1) := by decide +kernel
theorem dX12_notes_35 : decode cX12_notes 35 = .ok (.iadd, 1) := by decide +kernel
theorem dX12_notes_36 : decode cX12_notes 36 = .ok (.iaload, 1) := by decide +kernel
theorem dX12_notes_37 : decode cX12_notes 37 = .ok (.iastore, 1) := by decide +kernel
theorem dX12_notes_38 : decode cX12_notes 38 = .ok (.iinc 1 1, 3) := by decide +kernel
theorem dX12_notes_41 : decode cX12_notes 41 = .ok (.goto (-27), 3) := by decide +kernel
theorem dX12_notes_44 : decode cX12_notes 44 = .ok (.aload_n 0, 1) := by decide +kernel
theorem dX12_notes_45 : decode cX12_notes 45 = .ok (.getfield 13, 3) := by decide +kernel
theorem dX12_notes_48 : decode cX12_notes 48 = .ok (.bipush 52, 2) := by decide +kernel
theorem dX12_notes_50 : decode cX12_notes 50 = .ok (.dup2, 1) := by decide +kernel
theorem dX12_notes_51 : decode cX12_notes 51 = .ok (.iaload, 1) := by decide +kernel
theorem dX12_notes_52 : decode cX12_notes 52 = .ok (.iconst 1, 1) := by decide +kernel
theorem dX12_notes_53 : decode cX12_notes 53 = .ok (.isub, 1) := by decide +kernel
theorem dX12_notes_54 : decode cX12_notes 54 = .ok (.iastore, 1) := by decide +kernel
theorem dX12_notes_55 : decode cX12_notes 55 = .ok (.iconst 0, 1) := by decide +kernel
theorem dX12_notes_56 : decode cX12_notes 56 = .ok (.istore_n 1, 1) := by decide +kernel
theorem dX12_notes_57 : decode cX12_notes 57 = .ok (.iload_n 1, 1) := by decide +kernel
theorem dX12_notes_58 : decode cX12_notes 58 = .ok (.bipush 9, 2) := by decide +kernel
theorem dX12_notes_60 : decode cX12_notes 60 = .ok (.if_icmp .ge 35, 3) := by decide +kernel
theorem dX12_notes_63 : decode cX12_notes 63 = .ok (.aload_n 0, 1) := by decide +kernel
theorem dX12_notes_64 : decode cX12_notes 64 = .ok (.getfield 13, 3) := by decide +kernel
theorem dX12_notes_67 : decode cX12_notes 67 = .ok (.bipush 53, 2) := by decide +kernel
theorem dX12_notes_69 : decode cX12_notes 69 = .ok (.bipush 9, 2) := by decide +kernel
theorem dX12_notes_71 : decode cX12_notes 71 = .ok (.aload_n 0, 1) := by decide +kernel
theorem dX12_notes_72 : decode cX12_notes 72 = .ok (.getfield 13, 3) := by decide +kernel
theorem dX12_notes_75 : decode cX12_notes 75 = .ok (.bipush 52, 2) := by decide +kernel
theorem dX12_notes_77 : decode cX12_notes 77 = .ok (.iaload, 1) := by decide +kernel
theorem dX12_notes_78 : decode cX12_notes 78 = .ok (.imul, 1) := by decide +kernel
theorem dX12_notes_79 : decode cX12_notes 79 = .ok (.iadd, 1) := by decide +kernel
theorem dX12_notes_80 : decode cX12_notes 80 = .ok (.iload_n 1, 1) := by decide +kernel
theorem dX12_notes_81 : decode cX12_notes 81 = .ok (.iadd, 1) := by decide +kernel
theorem dX12_notes_82 : decode cX12_notes 82 = .ok (.aload_n 0, 1) := by decide +kernel
theorem dX12_notes_83 : decode cX12_notes 83 = .ok (.getfield 36, 3) := by decide +kernel
theorem dX12_notes_86 : decode cX12_notes 86 = .ok (.iload_n 1, 1) := by decide +kernel
theorem dX12_notes_87 : decode cX12_notes 87 = .ok (.iaload, 1) := by decide +kernel
theorem dX12_notes_88 : decode cX12_notes 88 = .ok (.iastore, 1) := by decide +kernel
theorem dX12_notes_89 : decode cX12_notes 89 = .ok (.iinc 1 1, 3) := by decide +kernel
theorem dX12_notes_92 : decode cX12_notes 92 = .ok (.goto (-35), 3) := by decide +kernel
theorem dX12_notes_95 : decode cX12_notes 95 = .ok (.aload_n 0, 1) := by decide +kernel
theorem dX12_notes_96 : decode cX12_notes 96 = .ok (.getfield 13, 3) := by decide +kernel
theorem dX12_notes_99 : decode cX12_notes 99 = .ok (.bipush 52, 2) := by decide +kernel
theorem dX12_notes_101 : decode cX12_notes 101 = .ok (.dup2, 1) := by decide +kernel
theorem dX12_notes_102 : decode cX12_notes 102 = .ok (.iaload, 1) := by decide +kernel
theorem dX12_notes_103 : decode cX12_notes 103 = .ok (.iconst 1, 1) := by decide +kernel
theorem dX12_notes_104 : decode cX12_notes 104 = .ok (.iadd, 1) := by decide +kernel
theorem dX12_notes_105 : decode cX12_notes 105 = .ok (.iastore, 1) := by decide +kernel
theorem dX12_notes_106 : decode cX12_notes 106 = .ok (.return_, 1) := by decide +kernel
theorem dX12_whyTell_0 : decode cX12_whyTell 0 = .ok (.lload_n 1, 1) := by decide +kernel
theorem dX12_whyTell_1 : decode cX12_whyTell 1 = .ok (.invokestatic 250, 3) := by decide +kernel
theorem dX12_whyTell_4 : decode cX12_whyTell 4 = .ok (.ifCond .eq 11, 3) := by decide +kernel
theorem dX12_whyTell_7 : decode cX12_whyTell 7 = .ok (.aload_n 0, 1) := by decide +kernel
theorem dX12_whyTell_8 : decode cX12_whyTell 8 = .ok (.lload_n 3, 1) := by decide +kernel
theorem dX12_whyTell_9 : decode cX12_whyTell 9 = .ok (.invokevirtual 254, 3) := by decide +kernel
theorem dX12_whyTell_12 : decode cX12_whyTell 12 = .ok (.ifCond .ne 7, 3) := by decide +kernel
theorem dX12_whyTell_15 : decode cX12_whyTell 15 = .ok (.iconst 1, 1) := by decide +kernel
theorem dX12_whyTell_16 : decode cX12_whyTell 16 = .ok (.goto 23, 3) := by decide +kernel
theorem dX12_whyTell_19 : decode cX12_whyTell 19 = .ok (.aload_n 0, 1) := by decide +kernel
theorem dX12_whyTell_20 : decode cX12_whyTell 20 = .ok (.aload_n 0, 1) := by decide +kernel
theorem dX12_whyTell_21 : decode cX12_whyTell 21 = .ok (.invokevirtual 260, 3) := by decide +kernel
theorem dX12_whyTell_24 : decode cX12_whyTell 24 = .ok (.lload_n 1, 1) := by decide +kernel
theorem dX12_whyTell_25 : decode cX12_whyTell 25 = .ok (.l2i, 1) := by decide +kernel
theorem dX12_whyTell_26 : decode cX12_whyTell 26 = .ok (.lload_n 3, 1) := by decide +kernel
theorem dX12_whyTell_27 : decode cX12_whyTell 27 = .ok (.l2i, 1) := by decide +kernel
theorem dX12_whyTell_28 : decode cX12_whyTell 28 = .ok (.invokevirtual 263, 3) := by decide +kernel
theorem dX12_whyTell_31 : decode cX12_whyTell 31 = .ok (.ifCond .eq 7, 3) := by decide +kernel
theorem dX12_whyTell_34 : decode cX12_whyTell 34 = .ok (.iconst 0, 1) := by decide +kernel
theorem dX12_whyTell_35 : decode cX12_whyTell 35 = .ok (.goto 4, 3) := by decide +kernel
theorem dX12_whyTell_38 : decode cX12_whyTell 38 = .ok (.iconst 3, 1) := by decide +kernel
theorem dX12_whyTell_39 : decode cX12_whyTell 39 = .ok (.ireturn, 1) := by decide +kernel
theorem dX12_whyForget_0 : decode cX12_whyForget 0 = .ok (.lload_n 1, 1) := by decide +kernel
theorem dX12_whyForget_1 : decode cX12_whyForget 1 = .ok (.invokestatic 250, 3) := by decide +kernel
theorem dX12_whyForget_4 : decode cX12_whyForget 4 = .ok (.ifCond .eq 11, 3) := by decide +kernel
theorem dX12_whyForget_7 : decode cX12_whyForget 7 = .ok (.aload_n 0, 1) := by decide +kernel
theorem dX12_whyForget_8 : decode cX12_whyForget 8 = .ok (.lload_n 3, 1) := by decide +kernel
theorem dX12_whyForget_9 : decode cX12_whyForget 9 = .ok (.invokevirtual 254, 3) := by decide +kernel
theorem dX12_whyForget_12 : decode cX12_whyForget 12 = .ok (.ifCond .ne 7, 3) := by decide +kernel
theorem dX12_whyForget_15 : decode cX12_whyForget 15 = .ok (.iconst 1, 1) := by decide +kernel
theorem dX12_whyForget_16 : decode cX12_whyForget 16 = .ok (.goto 22, 3) := by decide +kernel
theorem dX12_whyForget_19 : decode cX12_whyForget 19 = .ok (.aload_n 0, 1) := by decide +kernel
theorem dX12_whyForget_20 : decode cX12_whyForget 20 = .ok (.invokevirtual 260, 3) := by decide +kernel
theorem dX12_whyForget_23 : decode cX12_whyForget 23 = .ok (.lload_n 1, 1) := by decide +kernel
theorem dX12_whyForget_24 : decode cX12_whyForget 24 = .ok (.l2i, 1) := by decide +kernel
theorem dX12_whyForget_25 : decode cX12_whyForget 25 = .ok (.lload_n 3, 1) := by decide +kernel
theorem dX12_whyForget_26 : decode cX12_whyForget 26 = .ok (.l2i, 1) := by decide +kernel
theorem dX12_whyForget_27 : decode cX12_whyForget 27 = .ok (.invokestatic 214, 3) := by decide +kernel
theorem dX12_whyForget_30 : decode cX12_whyForget 30 = .ok (.ifCond .ne 7, 3) := by decide +kernel
theorem dX12_whyForget_33 : decode cX12_whyForget 33 = .ok (.iconst 2, 1) := by decide +kernel
theorem dX12_whyForget_34 : decode cX12_whyForget 34 = .ok (.goto 4, 3) := by decide +kernel
theorem dX12_whyForget_37 : decode cX12_whyForget 37 = .ok (.iconst 0, 1) := by decide +kernel
theorem dX12_whyForget_38 : decode cX12_whyForget 38 = .ok (.ireturn, 1) := by decide +kernel
theorem dX12_tell_0 : decode cX12_tell 0 = .ok (.aload_n 0, 1) := by decide +kernel
theorem dX12_tell_1 : decode cX12_tell 1 = .ok (.iconst 0, 1) := by decide +kernel
theorem dX12_tell_2 : decode cX12_tell 2 = .ok (.putfield 1, 3) := by decide +kernel
theorem dX12_tell_5 : decode cX12_tell 5 = .ok (.aload_n 0, 1) := by decide +kernel
theorem dX12_tell_6 : decode cX12_tell 6 = .ok (.iload_n 1, 1) := by decide +kernel
theorem dX12_tell_7 : decode cX12_tell 7 = .ok (.i2l, 1) := by decide +kernel
theorem dX12_tell_8 : decode cX12_tell 8 = .ok (.iload_n 2, 1) := by decide +kernel
theorem dX12_tell_9 : decode cX12_tell 9 = .ok (.i2l, 1) := by decide +kernel
theorem dX12_tell_10 : decode cX12_tell 10 = .ok (.invokevirtual 269, 3) := by decide +kernel
theorem dX12_tell_13 : decode cX12_tell 13 = .ok (.istore_n 3, 1) := by decide +kernel
theorem dX12_tell_14 : decode cX12_tell 14 = .ok (.iload_n 3, 1) := by decide +kernel
theorem dX12_tell_15 : decode cX12_tell 15 = .ok (.ifCond .eq 8, 3) := by decide +kernel
theorem dX12_tell_18 : decode cX12_tell 18 = .ok (.bipush (-10), 2) := by decide +kernel
theorem dX12_tell_20 : decode cX12_tell 20 = .ok (.iload_n 3, 1) := by decide +kernel
theorem dX12_tell_21 : decode cX12_tell 21 = .ok (.isub, 1) := by decide +kernel
theorem dX12_tell_22 : decode cX12_tell 22 = .ok (.ireturn, 1) := by decide +kernel
theorem dX12_tell_23 : decode cX12_tell 23 = .ok (.aload_n 0, 1) := by decide +kernel
theorem dX12_tell_24 : decode cX12_tell 24 = .ok (.invokevirtual 273, 3) := by decide +kernel
theorem dX12_tell_27 : decode cX12_tell 27 = .ok (.aload_n 0, 1) := by decide +kernel
theorem dX12_tell_28 : decode cX12_tell 28 = .ok (.aload_n 0, 1) := by decide +kernel
theorem dX12_tell_29 : decode cX12_tell 29 = .ok (.aload_n 0, 1) := by decide +kernel
theorem dX12_tell_30 : decode cX12_tell 30 = .ok (.invokevirtual 260, 3) := by decide +kernel
theorem dX12_tell_33 : decode cX12_tell 33 = .ok (.iload_n 1, 1) := by decide +kernel
theorem dX12_tell_34 : decode cX12_tell 34 = .ok (.iload_n 2, 1) := by decide +kernel
theorem dX12_tell_35 : decode cX12_tell 35 = .ok (.invokevirtual 266, 3) := by decide +kernel
theorem dX12_tell_38 : decode cX12_tell 38 = .ok (.invokevirtual 276, 3) := by decide +kernel
theorem dX12_tell_41 : decode cX12_tell 41 = .ok (.aload_n 0, 1) := by decide +kernel
theorem dX12_tell_42 : decode cX12_tell 42 = .ok (.invokevirtual 279, 3) := by decide +kernel
theorem dX12_tell_45 : decode cX12_tell 45 = .ok (.aload_n 0, 1) := by decide +kernel
theorem dX12_tell_46 : decode cX12_tell 46 = .ok (.getfield 13, 3) := by decide +kernel
theorem dX12_tell_49 : decode cX12_tell 49 = .ok (.bipush 43, 2) := by decide +kernel
theorem dX12_tell_51 : decode cX12_tell 51 = .ok (.iconst 4, 1) := by decide +kernel
theorem dX12_tell_52 : decode cX12_tell 52 = .ok (.iconst 1, 1) := by decide +kernel
theorem dX12_tell_53 : decode cX12_tell 53 = .ok (.iload_n 1, 1) := by decide +kernel
theorem dX12_tell_54 : decode cX12_tell 54 = .ok (.isub, 1) := by decide +kernel
theorem dX12_tell_55 : decode cX12_tell 55 = .ok (.imul, 1) := by decide +kernel
theorem dX12_tell_56 : decode cX12_tell 56 = .ok (.iadd, 1) := by decide +kernel
theorem dX12_tell_57 : decode cX12_tell 57 = .ok (.iload_n 2, 1) := by decide +kernel
theorem dX12_tell_58 : decode cX12_tell 58 = .ok (.iadd, 1) := by decide +kernel
theorem dX12_tell_59 : decode cX12_tell 59 = .ok (.iaload, 1) := by decide +kernel
theorem dX12_tell_60 : decode cX12_tell 60 = .ok (.ireturn, 1) := by decide +kernel
theorem dX12_days_0 : decode cX12_days 0 = .ok (.aload_n 0, 1) := by decide +kernel
theorem dX12_days_1 : decode cX12_days 1 = .ok (.iconst 0, 1) := by decide +kernel
theorem dX12_days_2 : decode cX12_days 2 = .ok (.putfield 1, 3) := by decide +kernel
theorem dX12_days_5 : decode cX12_days 5 = .ok (.iload_n 1, 1) := by decide +kernel
theorem dX12_days_6 : decode cX12_days 6 = .ok (.i2l, 1) := by decide +kernel
theorem dX12_days_7 : decode cX12_days 7 = .ok (.lconst 1, 1) := by decide +kernel
theorem dX12_days_8 : decode cX12_days 8 = .ok (.ldc2_w 282, 3) := by decide +kernel
theorem dX12_days_11 : decode cX12_days 11 = .ok (.invokestatic 138, 3) := by decide +kernel
theorem dX12_days_14 : decode cX12_days 14 = .ok (.ifCond .ne 6, 3) := by decide +kernel
theorem dX12_days_17 : decode cX12_days 17 = .ok (.bipush (-3), 2) := by decide +kernel
theorem dX12_days_19 : decode cX12_days 19 = .ok (.ireturn, 1) := by decide +kernel
theorem dX12_days_20 : decode cX12_days 20 = .ok (.aload_n 0, 1) := by decide +kernel
theorem dX12_days_21 : decode cX12_days 21 = .ok (.invokevirtual 273, 3) := by decide +kernel
theorem dX12_days_24 : decode cX12_days 24 = .ok (.iconst 0, 1) := by decide +kernel
theorem dX12_days_25 : decode cX12_days 25 = .ok (.istore_n 2, 1) := by decide +kernel
theorem dX12_days_26 : decode cX12_days 26 = .ok (.iload_n 2, 1) := by decide +kernel
theorem dX12_days_27 : decode cX12_days 27 = .ok (.iload_n 1, 1) := by decide +kernel
theorem dX12_days_28 : decode cX12_days 28 = .ok (.if_icmp .ge 20, 3) := by decide +kernel
theorem dX12_days_31 : decode cX12_days 31 = .ok (.aload_n 0, 1) := by decide +kernel
theorem dX12_days_32 : decode cX12_days 32 = .ok (.aload_n 0, 1) := by decide +kernel
theorem dX12_days_33 : decode cX12_days 33 = .ok (.invokevirtual 260, 3) := by decide +kernel
theorem dX12_days_36 : decode cX12_days 36 = .ok (.invokestatic 284, 3) := by decide +kernel
theorem dX12_days_39 : decode cX12_days 39 = .ok (.invokevirtual 276, 3) := by decide +kernel
theorem dX12_days_42 : decode cX12_days 42 = .ok (.iinc 2 1, 3) := by decide +kernel
theorem dX12_days_45 : decode cX12_days 45 = .ok (.goto (-19), 3) := by decide +kernel
theorem dX12_days_48 : decode cX12_days 48 = .ok (.aload_n 0, 1) := by decide +kernel
theorem dX12_days_49 : decode cX12_days 49 = .ok (.invokevirtual 279, 3) := by decide +kernel
theorem dX12_days_52 : decode cX12_days 52 = .ok (.aload_n 0, 1) := by decide +kernel
theorem dX12_days_53 : decode cX12_days 53 = .ok (.aload_n 0, 1) := by decide +kernel
theorem dX12_days_54 : decode cX12_days 54 = .ok (.invokevirtual 260, 3) := by decide +kernel
theorem dX12_days_57 : decode cX12_days 57 = .ok (.invokevirtual 287, 3) := by decide +kernel
theorem dX12_days_60 : decode cX12_days 60 = .ok (.ireturn, 1) := by decide +kernel
theorem dX12_forget_0 : decode cX12_forget 0 = .ok (.aload_n 0, 1) := by decide +kernel
theorem dX12_forget_1 : decode cX12_forget 1 = .ok (.iconst 0, 1) := by decide +kernel
theorem dX12_forget_2 : decode cX12_forget 2 = .ok (.putfield 1, 3) := by decide +kernel
theorem dX12_forget_5 : decode cX12_forget 5 = .ok (.aload_n 0, 1) := by decide +kernel
theorem dX12_forget_6 : decode cX12_forget 6 = .ok (.iload_n 1, 1) := by decide +kernel
theorem dX12_forget_7 : decode cX12_forget 7 = .ok (.i2l, 1) := by decide +kernel
theorem dX12_forget_8 : decode cX12_forget 8 = .ok (.iload_n 2, 1) := by decide +kernel
theorem dX12_forget_9 : decode cX12_forget 9 = .ok (.i2l, 1) := by decide +kernel
theorem dX12_forget_10 : decode cX12_forget 10 = .ok (.invokevirtual 290, 3) := by decide +kernel
theorem dX12_forget_13 : decode cX12_forget 13 = .ok (.istore_n 3, 1) := by decide +kernel
theorem dX12_forget_14 : decode cX12_forget 14 = .ok (.iload_n 3, 1) := by decide +kernel
theorem dX12_forget_15 : decode cX12_forget 15 = .ok (.ifCond .eq 8, 3) := by decide +kernel
theorem dX12_forget_18 : decode cX12_forget 18 = .ok (.bipush (-10), 2) := by decide +kernel
theorem dX12_forget_20 : decode cX12_forget 20 = .ok (.iload_n 3, 1) := by decide +kernel
theorem dX12_forget_21 : decode cX12_forget 21 = .ok (.isub, 1) := by decide +kernel
theorem dX12_forget_22 : decode cX12_forget 22 = .ok (.ireturn, 1) := by decide +kernel
theorem dX12_forget_23 : decode cX12_forget 23 = .ok (.aload_n 0, 1) := by decide +kernel
theorem dX12_forget_24 : decode cX12_forget 24 = .ok (.invokevirtual 273, 3) := by decide +kernel
theorem dX12_forget_27 : decode cX12_forget 27 = .ok (.aload_n 0, 1) := by decide +kernel
theorem dX12_forget_28 : decode cX12_forget 28 = .ok (.getfield 13, 3) := by decide +kernel
theorem dX12_forget_31 : decode cX12_forget 31 = .ok (.bipush 43, 2) := by decide +kernel
theorem dX12_forget_33 : decode cX12_forget 33 = .ok (.iconst 4, 1) := by decide +kernel
theorem dX12_forget_34 : decode cX12_forget 34 = .ok (.iload_n 1, 1) := by decide +kernel
theorem dX12_forget_35 : decode cX12_forget 35 = .ok (.imul, 1) := by decide +kernel
theorem dX12_forget_36 : decode cX12_forget 36 = .ok (.iadd, 1) := by decide +kernel
theorem dX12_forget_37 : decode cX12_forget 37 = .ok (.iload_n 2, 1) := by decide +kernel
theorem dX12_forget_38 : decode cX12_forget 38 = .ok (.iadd, 1) := by decide +kernel
theorem dX12_forget_39 : decode cX12_forget 39 = .ok (.iconst 0, 1) := by decide +kernel
theorem dX12_forget_40 : decode cX12_forget 40 = .ok (.iastore, 1) := by decide +kernel
theorem dX12_forget_41 : decode cX12_forget 41 = .ok (.aload_n 0, 1) := by decide +kernel
theorem dX12_forget_42 : decode cX12_forget 42 = .ok (.invokevirtual 279, 3) := by decide +kernel
theorem dX12_forget_45 : decode cX12_forget 45 = .ok (.aload_n 0, 1) := by decide +kernel
theorem dX12_forget_46 : decode cX12_forget 46 = .ok (.getfield 36, 3) := by decide +kernel
theorem dX12_forget_49 : decode cX12_forget 49 = .ok (.iconst 4, 1) := by decide +kernel
theorem dX12_forget_50 : decode cX12_forget 50 = .ok (.iload_n 1, 1) := by decide +kernel
theorem dX12_forget_51 : decode cX12_forget 51 = .ok (.imul, 1) := by decide +kernel
theorem dX12_forget_52 : decode cX12_forget 52 = .ok (.iload_n 2, 1) := by decide +kernel
theorem dX12_forget_53 : decode cX12_forget 53 = .ok (.iadd, 1) := by decide +kernel
theorem dX12_forget_54 : decode cX12_forget 54 = .ok (.iaload, 1) := by decide +kernel
theorem dX12_forget_55 : decode cX12_forget 55 = .ok (.ireturn, 1) := by decide +kernel
theorem dX12_bond_0 : decode cX12_bond 0 = .ok (.aload_n 0, 1) := by decide +kernel
theorem dX12_bond_1 : decode cX12_bond 1 = .ok (.iconst 0, 1) := by decide +kernel
theorem dX12_bond_2 : decode cX12_bond 2 = .ok (.putfield 1, 3) := by decide +kernel
theorem dX12_bond_5 : decode cX12_bond 5 = .ok (.iload_n 1, 1) := by decide +kernel
theorem dX12_bond_6 : decode cX12_bond 6 = .ok (.i2l, 1) := by decide +kernel
theorem dX12_bond_7 : decode cX12_bond 7 = .ok (.lconst 0, 1) := by decide +kernel
theorem dX12_bond_8 : decode cX12_bond 8 = .ok (.ldc2_w 293, 3) := by decide +kernel
theorem dX12_bond_11 : decode cX12_bond 11 = .ok (.invokestatic 138, 3) := by decide +kernel
theorem dX12_bond_14 : decode cX12_bond 14 = .ok (.ifCond .ne 6, 3) := by decide +kernel
theorem dX12_bond_17 : decode cX12_bond 17 = .ok (.bipush (-11), 2) := by decide +kernel
theorem dX12_bond_19 : decode cX12_bond 19 = .ok (.ireturn, 1) := by decide +kernel
theorem dX12_bond_20 : decode cX12_bond 20 = .ok (.aload_n 0, 1) := by decide +kernel
theorem dX12_bond_21 : decode cX12_bond 21 = .ok (.invokevirtual 273, 3) := by decide +kernel
theorem dX12_bond_24 : decode cX12_bond 24 = .ok (.aload_n 0, 1) := by decide +kernel
theorem dX12_bond_25 : decode cX12_bond 25 = .ok (.getfield 13, 3) := by decide +kernel
theorem dX12_bond_28 : decode cX12_bond 28 = .ok (.bipush 51, 2) := by decide +kernel
theorem dX12_bond_30 : decode cX12_bond 30 = .ok (.iload_n 1, 1) := by decide +kernel
theorem dX12_bond_31 : decode cX12_bond 31 = .ok (.iastore, 1) := by decide +kernel
theorem dX12_bond_32 : decode cX12_bond 32 = .ok (.aload_n 0, 1) := by decide +kernel
theorem dX12_bond_33 : decode cX12_bond 33 = .ok (.invokevirtual 279, 3) := by decide +kernel
theorem dX12_bond_36 : decode cX12_bond 36 = .ok (.aload_n 0, 1) := by decide +kernel
theorem dX12_bond_37 : decode cX12_bond 37 = .ok (.getfield 36, 3) := by decide +kernel
theorem dX12_bond_40 : decode cX12_bond 40 = .ok (.bipush 8, 2) := by decide +kernel
theorem dX12_bond_42 : decode cX12_bond 42 = .ok (.iaload, 1) := by decide +kernel
theorem dX12_bond_43 : decode cX12_bond 43 = .ok (.ireturn, 1) := by decide +kernel
theorem dX12_undo_0 : decode cX12_undo 0 = .ok (.aload_n 0, 1) := by decide +kernel
theorem dX12_undo_1 : decode cX12_undo 1 = .ok (.iconst 0, 1) := by decide +kernel
theorem dX12_undo_2 : decode cX12_undo 2 = .ok (.putfield 1, 3) := by decide +kernel
theorem dX12_undo_5 : decode cX12_undo 5 = .ok (.iload_n 1, 1) := by decide +kernel
theorem dX12_undo_6 : decode cX12_undo 6 = .ok (.i2l, 1) := by decide +kernel
theorem dX12_undo_7 : decode cX12_undo 7 = .ok (.lconst 1, 1) := by decide +kernel
theorem dX12_undo_8 : decode cX12_undo 8 = .ok (.ldc2_w 295, 3) := by decide +kernel
theorem dX12_undo_11 : decode cX12_undo 11 = .ok (.invokestatic 138, 3) := by decide +kernel
theorem dX12_undo_14 : decode cX12_undo 14 = .ok (.ifCond .eq 14, 3) := by decide +kernel
theorem dX12_undo_17 : decode cX12_undo 17 = .ok (.iload_n 1, 1) := by decide +kernel
theorem dX12_undo_18 : decode cX12_undo 18 = .ok (.aload_n 0, 1) := by decide +kernel
theorem dX12_undo_19 : decode cX12_undo 19 = .ok (.getfield 13, 3) := by decide +kernel
theorem dX12_undo_22 : decode cX12_undo 22 = .ok (.bipush 52, 2) := by decide +kernel
theorem dX12_undo_24 : decode cX12_undo 24 = .ok (.iaload, 1) := by decide +kernel
theorem dX12_undo_25 : decode cX12_undo 25 = .ok (.if_icmp .le 6, 3) := by decide +kernel
theorem dX12_undo_28 : decode cX12_undo 28 = .ok (.bipush (-3), 2) := by decide +kernel
theorem dX12_undo_30 : decode cX12_undo 30 = .ok (.ireturn, 1) := by decide +kernel
theorem dX12_undo_31 : decode cX12_undo 31 = .ok (.aload_n 0, 1) := by decide +kernel
theorem dX12_undo_32 : decode cX12_undo 32 = .ok (.getfield 13, 3) := by decide +kernel
theorem dX12_undo_35 : decode cX12_undo 35 = .ok (.bipush 52, 2) := by decide +kernel
theorem dX12_undo_37 : decode cX12_undo 37 = .ok (.dup2, 1) := by decide +kernel
theorem dX12_undo_38 : decode cX12_undo 38 = .ok (.iaload, 1) := by decide +kernel
theorem dX12_undo_39 : decode cX12_undo 39 = .ok (.iload_n 1, 1) := by decide +kernel
theorem dX12_undo_40 : decode cX12_undo 40 = .ok (.isub, 1) := by decide +kernel
theorem dX12_undo_41 : decode cX12_undo 41 = .ok (.iastore, 1) := by decide +kernel
theorem dX12_undo_42 : decode cX12_undo 42 = .ok (.iconst 0, 1) := by decide +kernel
theorem dX12_undo_43 : decode cX12_undo 43 = .ok (.istore_n 2, 1) := by decide +kernel
theorem dX12_undo_44 : decode cX12_undo 44 = .ok (.iload_n 2, 1) := by decide +kernel
theorem dX12_undo_45 : decode cX12_undo 45 = .ok (.bipush 9, 2) := by decide +kernel
theorem dX12_undo_47 : decode cX12_undo 47 = .ok (.if_icmp .ge 38, 3) := by decide +kernel
theorem dX12_undo_50 : decode cX12_undo 50 = .ok (.aload_n 0, 1) := by decide +kernel
theorem dX12_undo_51 : decode cX12_undo 51 = .ok (.getfield 13, 3) := by decide +kernel
theorem dX12_undo_54 : decode cX12_undo 54 = .ok (.bipush 43, 2) := by decide +kernel
theorem dX12_undo_56 : decode cX12_undo 56 = .ok (.iload_n 2, 1) := by decide +kernel
theorem dX12_undo_57 : decode cX12_undo 57 = .ok (.iadd, 1) := by decide +kernel
theorem dX12_undo_58 : decode cX12_undo 58 = .ok (.aload_n 0, 1) := by decide +kernel
theorem dX12_undo_59 : decode cX12_undo 59 = .ok (.getfield 13, 3) := by decide +kernel
theorem dX12_undo_62 : decode cX12_undo 62 = .ok (.bipush 53, 2) := by decide +kernel
theorem dX12_undo_64 : decode cX12_undo 64 = .ok (.bipush 9, 2) := by decide +kernel
theorem dX12_undo_66 : decode cX12_undo 66 = .ok (.aload_n 0, 1) := by decide +kernel
theorem dX12_undo_67 : decode cX12_undo 67 = .ok (.getfield 13, 3) := by decide +kernel
theorem dX12_undo_70 : decode cX12_undo 70 = .ok (.bipush 52, 2) := by decide +kernel
theorem dX12_undo_72 : decode cX12_undo 72 = .ok (.iaload, 1) := by decide +kernel
theorem dX12_undo_73 : decode cX12_undo 73 = .ok (.imul, 1) := by decide +kernel
theorem dX12_undo_74 : decode cX12_undo 74 = .ok (.iadd, 1) := by decide +kernel
theorem dX12_undo_75 : decode cX12_undo 75 = .ok (.iload_n 2, 1) := by decide +kernel
theorem dX12_undo_76 : decode cX12_undo 76 = .ok (.iadd, 1) := by decide +kernel
theorem dX12_undo_77 : decode cX12_undo 77 = .ok (.iaload, 1) := by decide +kernel
theorem dX12_undo_78 : decode cX12_undo 78 = .ok (.iastore, 1) := by decide +kernel
theorem dX12_undo_79 : decode cX12_undo 79 = .ok (.iinc 2 1, 3) := by decide +kernel
theorem dX12_undo_82 : decode cX12_undo 82 = .ok (.goto (-38), 3) := by decide +kernel
theorem dX12_undo_85 : decode cX12_undo 85 = .ok (.aload_n 0, 1) := by decide +kernel
theorem dX12_undo_86 : decode cX12_undo 86 = .ok (.getfield 13, 3) := by decide +kernel
theorem dX12_undo_89 : decode cX12_undo 89 = .ok (.bipush 52, 2) := by decide +kernel
theorem dX12_undo_91 : decode cX12_undo 91 = .ok (.iaload, 1) := by decide +kernel
theorem dX12_undo_92 : decode cX12_undo 92 = .ok (.ireturn, 1) := by decide +kernel
theorem dX12_whyNot_0 : decode cX12_whyNot 0 = .ok (.lload_n 1, 1) := by decide +kernel
theorem dX12_whyNot_1 : decode cX12_whyNot 1 = .ok (.ldc2_w 297, 3) := by decide +kernel
theorem dX12_whyNot_4 : decode cX12_whyNot 4 = .ok (.lcmp, 1) := by decide +kernel
theorem dX12_whyNot_5 : decode cX12_whyNot 5 = .ok (.ifCond .eq 16, 3) := by decide +kernel
theorem dX12_whyNot_8 : decode cX12_whyNot 8 = .ok (.lload_n 1, 1) := by decide +kernel
theorem dX12_whyNot_9 : decode cX12_whyNot 9 = .ok (.ldc2_w 299, 3) := by decide +kernel
theorem dX12_whyNot_12 : decode cX12_whyNot 12 = .ok (.ldc2_w 301, 3) := by decide +kernel
theorem dX12_whyNot_15 : decode cX12_whyNot 15 = .ok (.invokestatic 138, 3) := by decide +kernel
theorem dX12_whyNot_18 : decode cX12_whyNot 18 = .ok (.ifCond .eq 5, 3) := by decide +kernel
theorem dX12_whyNot_21 : decode cX12_whyNot 21 = .ok (.iconst 0, 1) := by decide +kernel
theorem dX12_whyNot_22 : decode cX12_whyNot 22 = .ok (.ireturn, 1) := by decide +kernel
theorem dX12_whyNot_23 : decode cX12_whyNot 23 = .ok (.lload_n 1, 1) := by decide +kernel
theorem dX12_whyNot_24 : decode cX12_whyNot 24 = .ok (.lconst 0, 1) := by decide +kernel
theorem dX12_whyNot_25 : decode cX12_whyNot 25 = .ok (.ldc2_w 303, 3) := by decide +kernel
theorem dX12_whyNot_28 : decode cX12_whyNot 28 = .ok (.invokestatic 138, 3) := by decide +kernel
theorem dX12_whyNot_31 : decode cX12_whyNot 31 = .ok (.ifCond .eq 18, 3) := by decide +kernel
theorem dX12_whyNot_34 : decode cX12_whyNot 34 = .ok (.aload_n 0, 1) := by decide +kernel
theorem dX12_whyNot_35 : decode cX12_whyNot 35 = .ok (.lload_n 1, 1) := by decide +kernel
theorem dX12_whyNot_36 : decode cX12_whyNot 36 = .ok (.ldc2_w 295, 3) := by decide +kernel
theorem dX12_whyNot_39 : decode cX12_whyNot 39 = .ok (.ldiv, 1) := by decide +kernel
theorem dX12_whyNot_40 : decode cX12_whyNot 40 = .ok (.lload_n 1, 1) := by decide +kernel
theorem dX12_whyNot_41 : decode cX12_whyNot 41 = .ok (.ldc2_w 295, 3) := by decide +kernel
theorem dX12_whyNot_44 : decode cX12_whyNot 44 = .ok (.lrem, 1) := by decide +kernel
theorem dX12_whyNot_45 : decode cX12_whyNot 45 = .ok (.invokevirtual 269, 3) := by decide +kernel
theorem dX12_whyNot_48 : decode cX12_whyNot 48 = .ok (.ireturn, 1) := by decide +kernel
theorem dX12_whyNot_49 : decode cX12_whyNot 49 = .ok (.lload_n 1, 1) := by decide +kernel
theorem dX12_whyNot_50 : decode cX12_whyNot 50 = .ok (.ldc2_w 305, 3) := by decide +kernel
theorem dX12_whyNot_53 : decode cX12_whyNot 53 = .ok (.ldc2_w 307, 3) := by decide +kernel
theorem dX12_whyNot_56 : decode cX12_whyNot 56 = .ok (.invokestatic 138, 3) := by decide +kernel
theorem dX12_whyNot_59 : decode cX12_whyNot 59 = .ok (.ifCond .eq 24, 3) := by decide +kernel
theorem dX12_whyNot_62 : decode cX12_whyNot 62 = .ok (.aload_n 0, 1) := by decide +kernel
theorem dX12_whyNot_63 : decode cX12_whyNot 63 = .ok (.lload_n 1, 1) := by decide +kernel
theorem dX12_whyNot_64 : decode cX12_whyNot 64 = .ok (.ldc2_w 305, 3) := by decide +kernel
theorem dX12_whyNot_67 : decode cX12_whyNot 67 = .ok (.lsub, 1) := by decide +kernel
theorem dX12_whyNot_68 : decode cX12_whyNot 68 = .ok (.ldc2_w 295, 3) := by decide +kernel
theorem dX12_whyNot_71 : decode cX12_whyNot 71 = .ok (.ldiv, 1) := by decide +kernel
theorem dX12_whyNot_72 : decode cX12_whyNot 72 = .ok (.lload_n 1, 1) := by decide +kernel
theorem dX12_whyNot_73 : decode cX12_whyNot 73 = .ok (.ldc2_w 295, 3) := by decide +kernel
theorem dX12_whyNot_76 : decode cX12_whyNot 76 = .ok (.lrem, 1) := by decide +kernel
theorem dX12_whyNot_77 : decode cX12_whyNot 77 = .ok (.invokevirtual 290, 3) := by decide +kernel
theorem dX12_whyNot_80 : decode cX12_whyNot 80 = .ok (.goto 4, 3) := by decide +kernel
theorem dX12_whyNot_83 : decode cX12_whyNot 83 = .ok (.iconst 1, 1) := by decide +kernel
theorem dX12_whyNot_84 : decode cX12_whyNot 84 = .ok (.ireturn, 1) := by decide +kernel
theorem dX12_acts_0 : decode cX12_acts 0 = .ok (.iload_n 1, 1) := by decide +kernel
theorem dX12_acts_1 : decode cX12_acts 1 = .ok (.iconst (-1), 1) := by decide +kernel
theorem dX12_acts_2 : decode cX12_acts 2 = .ok (.if_icmp .ne 17, 3) := by decide +kernel
theorem dX12_acts_5 : decode cX12_acts 5 = .ok (.aload_n 0, 1) := by decide +kernel
theorem dX12_acts_6 : decode cX12_acts 6 = .ok (.aload_n 0, 1) := by decide +kernel
theorem dX12_acts_7 : decode cX12_acts 7 = .ok (.invokevirtual 260, 3) := by decide +kernel
theorem dX12_acts_10 : decode cX12_acts 10 = .ok (.invokestatic 284, 3) := by decide +kernel
theorem dX12_acts_13 : decode cX12_acts 13 = .ok (.invokevirtual 276, 3) := by decide +kernel
theorem dX12_acts_16 : decode cX12_acts 16 = .ok (.goto 76, 3) := by decide +kernel
theorem dX12_acts_19 : decode cX12_acts 19 = .ok (.iload_n 1, 1) := by decide +kernel
theorem dX12_acts_20 : decode cX12_acts 20 = .ok (.bipush 20, 2) := by decide +kernel
theorem dX12_acts_22 : decode cX12_acts 22 = .ok (.if_icmp .ge 26, 3) := by decide +kernel
theorem dX12_acts_25 : decode cX12_acts 25 = .ok (.aload_n 0, 1) := by decide +kernel
theorem dX12_acts_26 : decode cX12_acts 26 = .ok (.aload_n 0, 1) := by decide +kernel
theorem dX12_acts_27 : decode cX12_acts 27 = .ok (.aload_n 0, 1) := by decide +kernel
theorem dX12_acts_28 : decode cX12_acts 28 = .ok (.invokevirtual 260, 3) := by decide +kernel
theorem dX12_acts_31 : decode cX12_acts 31 = .ok (.iload_n 1, 1) := by decide +kernel
theorem dX12_acts_32 : decode cX12_acts 32 = .ok (.bipush 10, 2) := by decide +kernel
theorem dX12_acts_34 : decode cX12_acts 34 = .ok (.idiv, 1) := by decide +kernel
theorem dX12_acts_35 : decode cX12_acts 35 = .ok (.iload_n 1, 1) := by decide +kernel
theorem dX12_acts_36 : decode cX12_acts 36 = .ok (.bipush 10, 2) := by decide +kernel
theorem dX12_acts_38 : decode cX12_acts 38 = .ok (.irem, 1) := by decide +kernel
theorem dX12_acts_39 : decode cX12_acts 39 = .ok (.invokevirtual 266, 3) := by decide +kernel
theorem dX12_acts_42 : decode cX12_acts 42 = .ok (.invokevirtual 276, 3) := by decide +kernel
theorem dX12_acts_45 : decode cX12_acts 45 = .ok (.goto 47, 3) := by decide +kernel
theorem dX12_acts_48 : decode cX12_acts 48 = .ok (.iload_n 1, 1) := by decide +kernel
theorem dX12_acts_49 : decode cX12_acts 49 = .ok (.bipush 120, 2) := by decide +kernel
theorem dX12_acts_51 : decode cX12_acts 51 = .ok (.if_icmp .ge 29, 3) := by decide +kernel
theorem dX12_acts_54 : decode cX12_acts 54 = .ok (.aload_n 0, 1) := by decide +kernel
theorem dX12_acts_55 : decode cX12_acts 55 = .ok (.getfield 13, 3) := by decide +kernel
theorem dX12_acts_58 : decode cX12_acts 58 = .ok (.bipush 43, 2) := by decide +kernel
theorem dX12_acts_60 : decode cX12_acts 60 = .ok (.iconst 4, 1) := by decide +kernel
theorem dX12_acts_61 : decode cX12_acts 61 = .ok (.iload_n 1, 1) := by decide +kernel
theorem dX12_acts_62 : decode cX12_acts 62 = .ok (.bipush 100, 2) := by decide +kernel
theorem dX12_acts_64 : decode cX12_acts 64 = .ok (.isub, 1) := by decide +kernel
theorem dX12_acts_65 : decode cX12_acts 65 = .ok (.bipush 10, 2) := by decide +kernel
theorem dX12_acts_67 : decode cX12_acts 67 = .ok (.idiv, 1) := by decide +kernel
theorem dX12_acts_68 : decode cX12_acts 68 = .ok (.imul, 1) := by decide +kernel
theorem dX12_acts_69 : decode cX12_acts 69 = .ok (.iadd, 1) := by decide +kernel
theorem dX12_acts_70 : decode cX12_acts 70 = .ok (.iload_n 1, 1) := by decide +kernel
theorem dX12_acts_71 : decode cX12_acts 71 = .ok (.bipush 10, 2) := by decide +kernel
theorem dX12_acts_73 : decode cX12_acts 73 = .ok (.irem, 1) := by decide +kernel
theorem dX12_acts_74 : decode cX12_acts 74 = .ok (.iadd, 1) := by decide +kernel
theorem dX12_acts_75 : decode cX12_acts 75 = .ok (.iconst 0, 1) := by decide +kernel
theorem dX12_acts_76 : decode cX12_acts 76 = .ok (.iastore, 1) := by decide +kernel
theorem dX12_acts_77 : decode cX12_acts 77 = .ok (.goto 15, 3) := by decide +kernel
theorem dX12_acts_80 : decode cX12_acts 80 = .ok (.aload_n 0, 1) := by decide +kernel
theorem dX12_acts_81 : decode cX12_acts 81 = .ok (.getfield 13, 3) := by decide +kernel
theorem dX12_acts_84 : decode cX12_acts 84 = .ok (.bipush 51, 2) := by decide +kernel
theorem dX12_acts_86 : decode cX12_acts 86 = .ok (.iload_n 1, 1) := by decide +kernel
theorem dX12_acts_87 : decode cX12_acts 87 = .ok (.sipush 200, 3) := by decide +kernel
theorem dX12_acts_90 : decode cX12_acts 90 = .ok (.isub, 1) := by decide +kernel
theorem dX12_acts_91 : decode cX12_acts 91 = .ok (.iastore, 1) := by decide +kernel
theorem dX12_acts_92 : decode cX12_acts 92 = .ok (.return_, 1) := by decide +kernel
theorem dX12_tells_0 : decode cX12_tells 0 = .ok (.aload_n 0, 1) := by decide +kernel
theorem dX12_tells_1 : decode cX12_tells 1 = .ok (.iconst 0, 1) := by decide +kernel
theorem dX12_tells_2 : decode cX12_tells 2 = .ok (.putfield 309, 3) := by decide +kernel
theorem dX12_tells_5 : decode cX12_tells 5 = .ok (.iconst 0, 1) := by decide +kernel
theorem dX12_tells_6 : decode cX12_tells 6 = .ok (.istore_n 2, 1) := by decide +kernel
theorem dX12_tells_7 : decode cX12_tells 7 = .ok (.iload_n 2, 1) := by decide +kernel
theorem dX12_tells_8 : decode cX12_tells 8 = .ok (.aload_n 0, 1) := by decide +kernel
theorem dX12_tells_9 : decode cX12_tells 9 = .ok (.getfield 66, 3) := by decide +kernel
theorem dX12_tells_12 : decode cX12_tells 12 = .ok (.iload_n 1, 1) := by decide +kernel
theorem dX12_tells_13 : decode cX12_tells 13 = .ok (.iaload, 1) := by decide +kernel
theorem dX12_tells_14 : decode cX12_tells 14 = .ok (.if_icmp .ge 53, 3) := by decide +kernel
theorem dX12_tells_17 : decode cX12_tells 17 = .ok (.aload_n 0, 1) := by decide +kernel
theorem dX12_tells_18 : decode cX12_tells 18 = .ok (.aload_n 0, 1) := by decide +kernel
theorem dX12_tells_19 : decode cX12_tells 19 = .ok (.aload_n 0, 1) := by decide +kernel
theorem dX12_tells_20 : decode cX12_tells 20 = .ok (.getfield 69, 3) := by decide +kernel
theorem dX12_tells_23 : decode cX12_tells 23 = .ok (.bipush 40, 2) := by decide +kernel
theorem dX12_tells_25 : decode cX12_tells 25 = .ok (.iload_n 1, 1) := by decide +kernel
theorem dX12_tells_26 : decode cX12_tells 26 = .ok (.imul, 1) := by decide +kernel
theorem dX12_tells_27 : decode cX12_tells 27 = .ok (.iload_n 2, 1) := by decide +kernel
theorem dX12_tells_28 : decode cX12_tells 28 = .ok (.iadd, 1) := by decide +kernel
theorem dX12_tells_29 : decode cX12_tells 29 = .ok (.laload, 1) := by decide +kernel
theorem dX12_tells_30 : decode cX12_tells 30 = .ok (.invokevirtual 312, 3) := by decide +kernel
theorem dX12_tells_33 : decode cX12_tells 33 = .ok (.putfield 309, 3) := by decide +kernel
theorem dX12_tells_36 : decode cX12_tells 36 = .ok (.aload_n 0, 1) := by decide +kernel
theorem dX12_tells_37 : decode cX12_tells 37 = .ok (.getfield 309, 3) := by decide +kernel
theorem dX12_tells_40 : decode cX12_tells 40 = .ok (.ifCond .eq 5, 3) := by decide +kernel
theorem dX12_tells_43 : decode cX12_tells 43 = .ok (.iload_n 2, 1) := by decide +kernel
theorem dX12_tells_44 : decode cX12_tells 44 = .ok (.ireturn, 1) := by decide +kernel
theorem dX12_tells_45 : decode cX12_tells 45 = .ok (.aload_n 0, 1) := by decide +kernel
theorem dX12_tells_46 : decode cX12_tells 46 = .ok (.aload_n 0, 1) := by decide +kernel
theorem dX12_tells_47 : decode cX12_tells 47 = .ok (.getfield 69, 3) := by decide +kernel
theorem dX12_tells_50 : decode cX12_tells 50 = .ok (.bipush 40, 2) := by decide +kernel
theorem dX12_tells_52 : decode cX12_tells 52 = .ok (.iload_n 1, 1) := by decide +kernel
theorem dX12_tells_53 : decode cX12_tells 53 = .ok (.imul, 1) := by decide +kernel
theorem dX12_tells_54 : decode cX12_tells 54 = .ok (.iload_n 2, 1) := by decide +kernel
theorem dX12_tells_55 : decode cX12_tells 55 = .ok (.iadd, 1) := by decide +kernel
theorem dX12_tells_56 : decode cX12_tells 56 = .ok (.laload, 1) := by decide +kernel
theorem dX12_tells_57 : decode cX12_tells 57 = .ok (.l2i, 1) := by decide +kernel
theorem dX12_tells_58 : decode cX12_tells 58 = .ok (.invokevirtual 316, 3) := by decide +kernel
theorem dX12_tells_61 : decode cX12_tells 61 = .ok (.iinc 2 1, 3) := by decide +kernel
theorem dX12_tells_64 : decode cX12_tells 64 = .ok (.goto (-57), 3) := by decide +kernel
theorem dX12_tells_67 : decode cX12_tells 67 = .ok (.aload_n 0, 1) := by decide +kernel
theorem dX12_tells_68 : decode cX12_tells 68 = .ok (.getfield 66, 3) := by decide +kernel
theorem dX12_tells_71 : decode cX12_tells 71 = .ok (.iload_n 1, 1) := by decide +kernel
theorem dX12_tells_72 : decode cX12_tells 72 = .ok (.iaload, 1) := by decide +kernel
theorem dX12_tells_73 : decode cX12_tells 73 = .ok (.ireturn, 1) := by decide +kernel
theorem dX12_noTray_0 : decode cX12_noTray 0 = .ok (.iload_n 1, 1) := by decide +kernel
theorem dX12_noTray_1 : decode cX12_noTray 1 = .ok (.i2l, 1) := by decide +kernel
theorem dX12_noTray_2 : decode cX12_noTray 2 = .ok (.lconst 0, 1) := by decide +kernel
theorem dX12_noTray_3 : decode cX12_noTray 3 = .ok (.ldc2_w 319, 3) := by decide +kernel
theorem dX12_noTray_6 : decode cX12_noTray 6 = .ok (.invokestatic 138, 3) := by decide +kernel
theorem dX12_noTray_9 : decode cX12_noTray 9 = .ok (.ifCond .ne 8, 3) := by decide +kernel
theorem dX12_noTray_12 : decode cX12_noTray 12 = .ok (.bipush (-2), 2) := by decide +kernel
theorem dX12_noTray_14 : decode cX12_noTray 14 = .ok (.goto 19, 3) := by decide +kernel
theorem dX12_noTray_17 : decode cX12_noTray 17 = .ok (.aload_n 0, 1) := by decide +kernel
theorem dX12_noTray_18 : decode cX12_noTray 18 = .ok (.getfield 63, 3) := by decide +kernel
theorem dX12_noTray_21 : decode cX12_noTray 21 = .ok (.iload_n 1, 1) := by decide +kernel
theorem dX12_noTray_22 : decode cX12_noTray 22 = .ok (.iaload, 1) := by decide +kernel
theorem dX12_noTray_23 : decode cX12_noTray 23 = .ok (.iconst (-1), 1) := by decide +kernel
theorem dX12_noTray_24 : decode cX12_noTray 24 = .ok (.if_icmp .ne 8, 3) := by decide +kernel
theorem dX12_noTray_27 : decode cX12_noTray 27 = .ok (.bipush (-6), 2) := by decide +kernel
theorem dX12_noTray_29 : decode cX12_noTray 29 = .ok (.goto 4, 3) := by decide +kernel
theorem dX12_noTray_32 : decode cX12_noTray 32 = .ok (.iconst 0, 1) := by decide +kernel
theorem dX12_noTray_33 : decode cX12_noTray 33 = .ok (.ireturn, 1) := by decide +kernel
theorem dX12_judge_0 : decode cX12_judge 0 = .ok (.aload_n 0, 1) := by decide +kernel
theorem dX12_judge_1 : decode cX12_judge 1 = .ok (.iconst 0, 1) := by decide +kernel
theorem dX12_judge_2 : decode cX12_judge 2 = .ok (.putfield 1, 3) := by decide +kernel
theorem dX12_judge_5 : decode cX12_judge 5 = .ok (.iload_n 2, 1) := by decide +kernel
theorem dX12_judge_6 : decode cX12_judge 6 = .ok (.i2l, 1) := by decide +kernel
theorem dX12_judge_7 : decode cX12_judge 7 = .ok (.lconst 0, 1) := by decide +kernel
theorem dX12_judge_8 : decode cX12_judge 8 = .ok (.ldc2_w 319, 3) := by decide +kernel
theorem dX12_judge_11 : decode cX12_judge 11 = .ok (.invokestatic 138, 3) := by decide +kernel
theorem dX12_judge_14 : decode cX12_judge 14 = .ok (.ifCond .ne 6, 3) := by decide +kernel
theorem dX12_judge_17 : decode cX12_judge 17 = .ok (.bipush (-2), 2) := by decide +kernel
theorem dX12_judge_19 : decode cX12_judge 19 = .ok (.ireturn, 1) := by decide +kernel
theorem dX12_judge_20 : decode cX12_judge 20 = .ok (.aload_n 0, 1) := by decide +kernel
theorem dX12_judge_21 : decode cX12_judge 21 = .ok (.iload_n 1, 1) := by decide +kernel
theorem dX12_judge_22 : decode cX12_judge 22 = .ok (.invokevirtual 321, 3) := by decide +kernel
theorem dX12_judge_25 : decode cX12_judge 25 = .ok (.istore_n 3, 1) := by decide +kernel
theorem dX12_judge_26 : decode cX12_judge 26 = .ok (.iload_n 3, 1) := by decide +kernel
theorem dX12_judge_27 : decode cX12_judge 27 = .ok (.ifCond .eq 5, 3) := by decide +kernel
theorem dX12_judge_30 : decode cX12_judge 30 = .ok (.iload_n 3, 1) := by decide +kernel
theorem dX12_judge_31 : decode cX12_judge 31 = .ok (.ireturn, 1) := by decide +kernel
theorem dX12_judge_32 : decode cX12_judge 32 = .ok (.aload_n 0, 1) := by decide +kernel
theorem dX12_judge_33 : decode cX12_judge 33 = .ok (.invokevirtual 273, 3) := by decide +kernel
theorem dX12_judge_36 : decode cX12_judge 36 = .ok (.aload_n 0, 1) := by decide +kernel
theorem dX12_judge_37 : decode cX12_judge 37 = .ok (.iload_n 1, 1) := by decide +kernel
theorem dX12_judge_38 : decode cX12_judge 38 = .ok (.invokevirtual 324, 3) := by decide +kernel
theorem dX12_judge_41 : decode cX12_judge 41 = .ok (.istore 4, 2) := by decide +kernel
theorem dX12_judge_43 : decode cX12_judge 43 = .ok (.aload_n 0, 1) := by decide +kernel
theorem dX12_judge_44 : decode cX12_judge 44 = .ok (.invokevirtual 260, 3) := by decide +kernel
theorem dX12_judge_47 : decode cX12_judge 47 = .ok (.istore 5, 2) := by decide +kernel
theorem dX12_judge_49 : decode cX12_judge 49 = .ok (.aload_n 0, 1) := by decide +kernel
theorem dX12_judge_50 : decode cX12_judge 50 = .ok (.invokevirtual 327, 3) := by decide +kernel
theorem dX12_judge_53 : decode cX12_judge 53 = .ok (.iload_n 2, 1) := by decide +kernel
theorem dX12_judge_54 : decode cX12_judge 54 = .ok (.ifCond .ne 19, 3) := by decide +kernel
theorem dX12_judge_57 : decode cX12_judge 57 = .ok (.aload_n 0, 1) := by decide +kernel
theorem dX12_judge_58 : decode cX12_judge 58 = .ok (.getfield 309, 3) := by decide +kernel
theorem dX12_judge_61 : decode cX12_judge 61 = .ok (.ifCond .ne 7, 3) := by decide +kernel
theorem dX12_judge_64 : decode cX12_judge 64 = .ok (.iconst (-1), 1) := by decide +kernel
theorem dX12_judge_65 : decode cX12_judge 65 = .ok (.goto 29, 3) := by decide +kernel
theorem dX12_judge_68 : decode cX12_judge 68 = .ok (.iload 4, 2) := by decide +kernel
theorem dX12_judge_70 : decode cX12_judge 70 = .ok (.goto 24, 3) := by decide +kernel
theorem dX12_judge_73 : decode cX12_judge 73 = .ok (.iload_n 2, 1) := by decide +kernel
theorem dX12_judge_74 : decode cX12_judge 74 = .ok (.iconst 1, 1) := by decide +kernel
theorem dX12_judge_75 : decode cX12_judge 75 = .ok (.if_icmp .ne 10, 3) := by decide +kernel
theorem dX12_judge_78 : decode cX12_judge 78 = .ok (.aload_n 0, 1) := by decide +kernel
theorem dX12_judge_79 : decode cX12_judge 79 = .ok (.getfield 309, 3) := by decide +kernel
theorem dX12_judge_82 : decode cX12_judge 82 = .ok (.goto 12, 3) := by decide +kernel
theorem dX12_judge_85 : decode cX12_judge 85 = .ok (.aload_n 0, 1) := by decide +kernel
theorem dX12_judge_86 : decode cX12_judge 86 = .ok (.iload 5, 2) := by decide +kernel
theorem dX12_judge_88 : decode cX12_judge 88 = .ok (.iload_n 2, 1) := by decide +kernel
theorem dX12_judge_89 : decode cX12_judge 89 = .ok (.iconst 2, 1) := by decide +kernel
theorem dX12_judge_90 : decode cX12_judge 90 = .ok (.isub, 1) := by decide +kernel
theorem dX12_judge_91 : decode cX12_judge 91 = .ok (.invokevirtual 244, 3) := by decide +kernel
theorem dX12_judge_94 : decode cX12_judge 94 = .ok (.ireturn, 1) := by decide +kernel
theorem dX12_perform_0 : decode cX12_perform 0 = .ok (.aload_n 0, 1) := by decide +kernel
theorem dX12_perform_1 : decode cX12_perform 1 = .ok (.iconst 0, 1) := by decide +kernel
theorem dX12_perform_2 : decode cX12_perform 2 = .ok (.putfield 1, 3) := by decide +kernel
theorem dX12_perform_5 : decode cX12_perform 5 = .ok (.aload_n 0, 1) := by decide +kernel
theorem dX12_perform_6 : decode cX12_perform 6 = .ok (.iload_n 1, 1) := by decide +kernel
theorem dX12_perform_7 : decode cX12_perform 7 = .ok (.invokevirtual 321, 3) := by decide +kernel
theorem dX12_perform_10 : decode cX12_perform 10 = .ok (.istore_n 2, 1) := by decide +kernel
theorem dX12_perform_11 : decode cX12_perform 11 = .ok (.iload_n 2, 1) := by decide +kernel
theorem dX12_perform_12 : decode cX12_perform 12 = .ok (.ifCond .eq 5, 3) := by decide +kernel
theorem dX12_perform_15 : decode cX12_perform 15 = .ok (.iload_n 2, 1) := by decide +kernel
theorem dX12_perform_16 : decode cX12_perform 16 = .ok (.ireturn, 1) := by decide +kernel
theorem dX12_perform_17 : decode cX12_perform 17 = .ok (.aload_n 0, 1) := by decide +kernel
theorem dX12_perform_18 : decode cX12_perform 18 = .ok (.invokevirtual 273, 3) := by decide +kernel
theorem dX12_perform_21 : decode cX12_perform 21 = .ok (.aload_n 0, 1) := by decide +kernel
theorem dX12_perform_22 : decode cX12_perform 22 = .ok (.iload_n 1, 1) := by decide +kernel
theorem dX12_perform_23 : decode cX12_perform 23 = .ok (.invokevirtual 324, 3) := by decide +kernel
theorem dX12_perform_26 : decode cX12_perform 26 = .ok (.istore_n 3, 1) := by decide +kernel
theorem dX12_perform_27 : decode cX12_perform 27 = .ok (.iload_n 3, 1) := by decide +kernel
theorem dX12_perform_28 : decode cX12_perform 28 = .ok (.ifCond .le 7, 3) := by decide +kernel
theorem dX12_perform_31 : decode cX12_perform 31 = .ok (.aload_n 0, 1) := by decide +kernel
theorem dX12_perform_32 : decode cX12_perform 32 = .ok (.invokevirtual 279, 3) := by decide +kernel
theorem dX12_perform_35 : decode cX12_perform 35 = .ok (.iload_n 3, 1) := by decide +kernel
theorem dX12_perform_36 : decode cX12_perform 36 = .ok (.ireturn, 1) := by decide +kernel
theorem dX12_draw_0 : decode cX12_draw 0 = .ok (.aload_n 0, 1) := by decide +kernel
theorem dX12_draw_1 : decode cX12_draw 1 = .ok (.ldc_w 330, 3) := by decide +kernel
theorem dX12_draw_4 : decode cX12_draw 4 = .ok (.aload_n 0, 1) := by decide +kernel
theorem dX12_draw_5 : decode cX12_draw 5 = .ok (.getfield 331, 3) := by decide +kernel
theorem dX12_draw_8 : decode cX12_draw 8 = .ok (.imul, 1) := by decide +kernel
theorem dX12_draw_9 : decode cX12_draw 9 = .ok (.sipush 12345, 3) := by decide +kernel
theorem dX12_draw_12 : decode cX12_draw 12 = .ok (.iadd, 1) := by decide +kernel
theorem dX12_draw_13 : decode cX12_draw 13 = .ok (.putfield 331, 3) := by decide +kernel
theorem dX12_draw_16 : decode cX12_draw 16 = .ok (.aload_n 0, 1) := by decide +kernel
theorem dX12_draw_17 : decode cX12_draw 17 = .ok (.getfield 331, 3) := by decide +kernel
theorem dX12_draw_20 : decode cX12_draw 20 = .ok (.bipush 16, 2) := by decide +kernel
theorem dX12_draw_22 : decode cX12_draw 22 = .ok (.iushr, 1) := by decide +kernel
theorem dX12_draw_23 : decode cX12_draw 23 = .ok (.iload_n 1, 1) := by decide +kernel
theorem dX12_draw_24 : decode cX12_draw 24 = .ok (.irem, 1) := by decide +kernel
theorem dX12_draw_25 : decode cX12_draw 25 = .ok (.ireturn, 1) := by decide +kernel
theorem dX12_drawn_0 : decode cX12_drawn 0 = .ok (.aload_n 0, 1) := by decide +kernel
theorem dX12_drawn_1 : decode cX12_drawn 1 = .ok (.bipush 6, 2) := by decide +kernel
theorem dX12_drawn_3 : decode cX12_drawn 3 = .ok (.invokevirtual 334, 3) := by decide +kernel
theorem dX12_drawn_6 : decode cX12_drawn 6 = .ok (.istore_n 1, 1) := by decide +kernel
theorem dX12_drawn_7 : decode cX12_drawn 7 = .ok (.iload_n 1, 1) := by decide +kernel
theorem dX12_drawn_8 : decode cX12_drawn 8 = .ok (.iconst 4, 1) := by decide +kernel
theorem dX12_drawn_9 : decode cX12_drawn 9 = .ok (.if_icmp .ne 5, 3) := by decide +kernel
theorem dX12_drawn_12 : decode cX12_drawn 12 = .ok (.iconst (-1), 1) := by decide +kernel
theorem dX12_drawn_13 : decode cX12_drawn 13 = .ok (.ireturn, 1) := by decide +kernel
theorem dX12_drawn_14 : decode cX12_drawn 14 = .ok (.iload_n 1, 1) := by decide +kernel
theorem dX12_drawn_15 : decode cX12_drawn 15 = .ok (.iconst 5, 1) := by decide +kernel
theorem dX12_drawn_16 : decode cX12_drawn 16 = .ok (.if_icmp .ne 14, 3) := by decide +kernel
theorem dX12_drawn_19 : decode cX12_drawn 19 = .ok (.sipush 200, 3) := by decide +kernel
theorem dX12_drawn_22 : decode cX12_drawn 22 = .ok (.aload_n 0, 1) := by decide +kernel
theorem dX12_drawn_23 : decode cX12_drawn 23 = .ok (.bipush 10, 2) := by decide +kernel
theorem dX12_drawn_25 : decode cX12_drawn 25 = .ok (.invokevirtual 334, 3) := by decide +kernel
theorem dX12_drawn_28 : decode cX12_drawn 28 = .ok (.iadd, 1) := by decide +kernel
theorem dX12_drawn_29 : decode cX12_drawn 29 = .ok (.ireturn, 1) := by decide +kernel
theorem dX12_drawn_30 : decode cX12_drawn 30 = .ok (.aload_n 0, 1) := by decide +kernel
theorem dX12_drawn_31 : decode cX12_drawn 31 = .ok (.iconst 2, 1) := by decide +kernel
theorem dX12_drawn_32 : decode cX12_drawn 32 = .ok (.invokevirtual 334, 3) := by decide +kernel
theorem dX12_drawn_35 : decode cX12_drawn 35 = .ok (.istore_n 2, 1) := by decide +kernel
theorem dX12_drawn_36 : decode cX12_drawn 36 = .ok (.iload_n 1, 1) := by decide +kernel
theorem dX12_drawn_37 : decode cX12_drawn 37 = .ok (.iconst 3, 1) := by decide +kernel
theorem dX12_drawn_38 : decode cX12_drawn 38 = .ok (.if_icmp .ne 8, 3) := by decide +kernel
theorem dX12_drawn_41 : decode cX12_drawn 41 = .ok (.bipush 100, 2) := by decide +kernel
theorem dX12_drawn_43 : decode cX12_drawn 43 = .ok (.goto 4, 3) := by decide +kernel
theorem dX12_drawn_46 : decode cX12_drawn 46 = .ok (.iconst 0, 1) := by decide +kernel
theorem dX12_drawn_47 : decode cX12_drawn 47 = .ok (.bipush 10, 2) := by decide +kernel
theorem dX12_drawn_49 : decode cX12_drawn 49 = .ok (.iload_n 2, 1) := by decide +kernel
theorem dX12_drawn_50 : decode cX12_drawn 50 = .ok (.imul, 1) := by decide +kernel
theorem dX12_drawn_51 : decode cX12_drawn 51 = .ok (.iadd, 1) := by decide +kernel
theorem dX12_drawn_52 : decode cX12_drawn 52 = .ok (.aload_n 0, 1) := by decide +kernel
theorem dX12_drawn_53 : decode cX12_drawn 53 = .ok (.iconst 4, 1) := by decide +kernel
theorem dX12_drawn_54 : decode cX12_drawn 54 = .ok (.invokevirtual 334, 3) := by decide +kernel
theorem dX12_drawn_57 : decode cX12_drawn 57 = .ok (.iadd, 1) := by decide +kernel
theorem dX12_drawn_58 : decode cX12_drawn 58 = .ok (.ireturn, 1) := by decide +kernel
theorem dX12_year_0 : decode cX12_year 0 = .ok (.aload_n 0, 1) := by decide +kernel
theorem dX12_year_1 : decode cX12_year 1 = .ok (.iconst 0, 1) := by decide +kernel
theorem dX12_year_2 : decode cX12_year 2 = .ok (.putfield 1, 3) := by decide +kernel
theorem dX12_year_5 : decode cX12_year 5 = .ok (.iload_n 2, 1) := by decide +kernel
theorem dX12_year_6 : decode cX12_year 6 = .ok (.i2l, 1) := by decide +kernel
theorem dX12_year_7 : decode cX12_year 7 = .ok (.lconst 1, 1) := by decide +kernel
theorem dX12_year_8 : decode cX12_year 8 = .ok (.ldc2_w 337, 3) := by decide +kernel
theorem dX12_year_11 : decode cX12_year 11 = .ok (.invokestatic 138, 3) := by decide +kernel
theorem dX12_year_14 : decode cX12_year 14 = .ok (.ifCond .ne 6, 3) := by decide +kernel
theorem dX12_year_17 : decode cX12_year 17 = .ok (.bipush (-3), 2) := by decide +kernel
theorem dX12_year_19 : decode cX12_year 19 = .ok (.ireturn, 1) := by decide +kernel
theorem dX12_year_20 : decode cX12_year 20 = .ok (.aload_n 0, 1) := by decide +kernel
theorem dX12_year_21 : decode cX12_year 21 = .ok (.invokevirtual 273, 3) := by decide +kernel
theorem dX12_year_24 : decode cX12_year 24 = .ok (.aload_n 0, 1) := by decide +kernel
theorem dX12_year_25 : decode cX12_year 25 = .ok (.iload_n 1, 1) := by decide +kernel
theorem dX12_year_26 : decode cX12_year 26 = .ok (.putfield 331, 3) := by decide +kernel
theorem dX12_year_29 : decode cX12_year 29 = .ok (.iconst 0, 1) := by decide +kernel
theorem dX12_year_30 : decode cX12_year 30 = .ok (.istore_n 3, 1) := by decide +kernel
theorem dX12_year_31 : decode cX12_year 31 = .ok (.iconst 0, 1) := by decide +kernel
theorem dX12_year_32 : decode cX12_year 32 = .ok (.istore 4, 2) := by decide +kernel
theorem dX12_year_34 : decode cX12_year 34 = .ok (.iload 4, 2) := by decide +kernel
theorem dX12_year_36 : decode cX12_year 36 = .ok (.iload_n 2, 1) := by decide +kernel
theorem dX12_year_37 : decode cX12_year 37 = .ok (.if_icmp .ge 37, 3) := by decide +kernel
theorem dX12_year_40 : decode cX12_year 40 = .ok (.aload_n 0, 1) := by decide +kernel
theorem dX12_year_41 : decode cX12_year 41 = .ok (.invokevirtual 339, 3) := by decide +kernel
theorem dX12_year_44 : decode cX12_year 44 = .ok (.istore 5, 2) := by decide +kernel
theorem dX12_year_46 : decode cX12_year 46 = .ok (.aload_n 0, 1) := by decide +kernel
theorem dX12_year_47 : decode cX12_year 47 = .ok (.iload 5, 2) := by decide +kernel
theorem dX12_year_49 : decode cX12_year 49 = .ok (.i2l, 1) := by decide +kernel
theorem dX12_year_50 : decode cX12_year 50 = .ok (.invokevirtual 312, 3) := by decide +kernel
theorem dX12_year_53 : decode cX12_year 53 = .ok (.ifCond .eq 6, 3) := by decide +kernel
theorem dX12_year_56 : decode cX12_year 56 = .ok (.goto 12, 3) := by decide +kernel
theorem dX12_year_59 : decode cX12_year 59 = .ok (.aload_n 0, 1) := by decide +kernel
theorem dX12_year_60 : decode cX12_year 60 = .ok (.iload 5, 2) := by decide +kernel
theorem dX12_year_62 : decode cX12_year 62 = .ok (.invokevirtual 316, 3) := by decide +kernel
theorem dX12_year_65 : decode cX12_year 65 = .ok (.iinc 3 1, 3) := by decide +kernel
theorem dX12_year_68 : decode cX12_year 68 = .ok (.iinc 4 1, 3) := by decide +kernel
theorem dX12_year_71 : decode cX12_year 71 = .ok (.goto (-37), 3) := by decide +kernel
theorem dX12_year_74 : decode cX12_year 74 = .ok (.iload_n 3, 1) := by decide +kernel
theorem dX12_year_75 : decode cX12_year 75 = .ok (.ifCond .le 7, 3) := by decide +kernel
theorem dX12_year_78 : decode cX12_year 78 = .ok (.aload_n 0, 1) := by decide +kernel
theorem dX12_year_79 : decode cX12_year 79 = .ok (.invokevirtual 279, 3) := by decide +kernel
theorem dX12_year_82 : decode cX12_year 82 = .ok (.iload_n 3, 1) := by decide +kernel
theorem dX12_year_83 : decode cX12_year 83 = .ok (.ireturn, 1) := by decide +kernel
theorem dX12_movedTo_0 : decode cX12_movedTo 0 = .ok (.iload_n 2, 1) := by decide +kernel
theorem dX12_movedTo_1 : decode cX12_movedTo 1 = .ok (.bipush 8, 2) := by decide +kernel
theorem dX12_movedTo_3 : decode cX12_movedTo 3 = .ok (.if_icmp .ne 8, 3) := by decide +kernel
theorem dX12_movedTo_6 : decode cX12_movedTo 6 = .ok (.iload_n 1, 1) := by decide +kernel
theorem dX12_movedTo_7 : decode cX12_movedTo 7 = .ok (.invokestatic 284, 3) := by decide +kernel
theorem dX12_movedTo_10 : decode cX12_movedTo 10 = .ok (.ireturn, 1) := by decide +kernel
theorem dX12_movedTo_11 : decode cX12_movedTo 11 = .ok (.iload_n 2, 1) := by decide +kernel
theorem dX12_movedTo_12 : decode cX12_movedTo 12 = .ok (.iconst 4, 1) := by decide +kernel
theorem dX12_movedTo_13 : decode cX12_movedTo 13 = .ok (.irem, 1) := by decide +kernel
theorem dX12_movedTo_14 : decode cX12_movedTo 14 = .ok (.istore_n 3, 1) := by decide +kernel
theorem dX12_movedTo_15 : decode cX12_movedTo 15 = .ok (.iload_n 3, 1) := by decide +kernel
theorem dX12_movedTo_16 : decode cX12_movedTo 16 = .ok (.aload_n 0, 1) := by decide +kernel
theorem dX12_movedTo_17 : decode cX12_movedTo 17 = .ok (.getfield 13, 3) := by decide +kernel
theorem dX12_movedTo_20 : decode cX12_movedTo 20 = .ok (.iconst 1, 1) := by decide +kernel
theorem dX12_movedTo_21 : decode cX12_movedTo 21 = .ok (.iaload, 1) := by decide +kernel
theorem dX12_movedTo_22 : decode cX12_movedTo 22 = .ok (.if_icmp .ge 27, 3) := by decide +kernel
theorem dX12_movedTo_25 : decode cX12_movedTo 25 = .ok (.aload_n 0, 1) := by decide +kernel
theorem dX12_movedTo_26 : decode cX12_movedTo 26 = .ok (.iload_n 1, 1) := by decide +kernel
theorem dX12_movedTo_27 : decode cX12_movedTo 27 = .ok (.iload_n 2, 1) := by decide +kernel
theorem dX12_movedTo_28 : decode cX12_movedTo 28 = .ok (.iconst 4, 1) := by decide +kernel
theorem dX12_movedTo_29 : decode cX12_movedTo 29 = .ok (.idiv, 1) := by decide +kernel
theorem dX12_movedTo_30 : decode cX12_movedTo 30 = .ok (.iload_n 3, 1) := by decide +kernel
theorem dX12_movedTo_31 : decode cX12_movedTo 31 = .ok (.invokevirtual 263, 3) := by decide +kernel
theorem dX12_movedTo_34 : decode cX12_movedTo 34 = .ok (.ifCond .eq 15, 3) := by decide +kernel
theorem dX12_movedTo_37 : decode cX12_movedTo 37 = .ok (.aload_n 0, 1) := by decide +kernel
theorem dX12_movedTo_38 : decode cX12_movedTo 38 = .ok (.iload_n 1, 1) := by decide +kernel
theorem dX12_movedTo_39 : decode cX12_movedTo 39 = .ok (.iload_n 2, 1) := by decide +kernel
theorem dX12_movedTo_40 : decode cX12_movedTo 40 = .ok (.iconst 4, 1) := by decide +kernel
theorem dX12_movedTo_41 : decode cX12_movedTo 41 = .ok (.idiv, 1) := by decide +kernel
theorem dX12_movedTo_42 : decode cX12_movedTo 42 = .ok (.iload_n 3, 1) := by decide +kernel
theorem dX12_movedTo_43 : decode cX12_movedTo 43 = .ok (.invokevirtual 266, 3) := by decide +kernel
theorem dX12_movedTo_46 : decode cX12_movedTo 46 = .ok (.goto 4, 3) := by decide +kernel
theorem dX12_movedTo_49 : decode cX12_movedTo 49 = .ok (.iconst (-1), 1) := by decide +kernel
theorem dX12_movedTo_50 : decode cX12_movedTo 50 = .ok (.ireturn, 1) := by decide +kernel
theorem dX12_toldMove_0 : decode cX12_toldMove 0 = .ok (.iload_n 0, 1) := by decide +kernel
theorem dX12_toldMove_1 : decode cX12_toldMove 1 = .ok (.bipush 8, 2) := by decide +kernel
theorem dX12_toldMove_3 : decode cX12_toldMove 3 = .ok (.if_icmp .ne 8, 3) := by decide +kernel
theorem dX12_toldMove_6 : decode cX12_toldMove 6 = .ok (.bipush 99, 2) := by decide +kernel
theorem dX12_toldMove_8 : decode cX12_toldMove 8 = .ok (.goto 13, 3) := by decide +kernel
theorem dX12_toldMove_11 : decode cX12_toldMove 11 = .ok (.bipush 10, 2) := by decide +kernel
theorem dX12_toldMove_13 : decode cX12_toldMove 13 = .ok (.iload_n 0, 1) := by decide +kernel
theorem dX12_toldMove_14 : decode cX12_toldMove 14 = .ok (.iconst 4, 1) := by decide +kernel
theorem dX12_toldMove_15 : decode cX12_toldMove 15 = .ok (.idiv, 1) := by decide +kernel
theorem dX12_toldMove_16 : decode cX12_toldMove 16 = .ok (.imul, 1) := by decide +kernel
theorem dX12_toldMove_17 : decode cX12_toldMove 17 = .ok (.iload_n 0, 1) := by decide +kernel
theorem dX12_toldMove_18 : decode cX12_toldMove 18 = .ok (.iconst 4, 1) := by decide +kernel
theorem dX12_toldMove_19 : decode cX12_toldMove 19 = .ok (.irem, 1) := by decide +kernel
theorem dX12_toldMove_20 : decode cX12_toldMove 20 = .ok (.iadd, 1) := by decide +kernel
theorem dX12_toldMove_21 : decode cX12_toldMove 21 = .ok (.ireturn, 1) := by decide +kernel
theorem dX12_laysReached_0 : decode cX12_laysReached 0 = .ok (.aload_n 0, 1) := by decide +kernel
theorem dX12_laysReached_1 : decode cX12_laysReached 1 = .ok (.invokevirtual 260, 3) := by decide +kernel
theorem dX12_laysReached_4 : decode cX12_laysReached 4 = .ok (.istore_n 2, 1) := by decide +kernel
theorem dX12_laysReached_5 : decode cX12_laysReached 5 = .ok (.iconst 0, 1) := by decide +kernel
theorem dX12_laysReached_6 : decode cX12_laysReached 6 = .ok (.istore_n 3, 1) := by decide +kernel
theorem dX12_laysReached_7 : decode cX12_laysReached 7 = .ok (.iload_n 3, 1) := by decide +kernel
theorem dX12_laysReached_8 : decode cX12_laysReached 8 = .ok (.ldc 39, 2) := by decide +kernel
theorem dX12_laysReached_10 : decode cX12_laysReached 10 = .ok (.if_icmp .ge 25, 3) := by decide +kernel
theorem dX12_laysReached_13 : decode cX12_laysReached 13 = .ok (.aload_n 0, 1) := by decide +kernel
theorem dX12_laysReached_14 : decode cX12_laysReached 14 = .ok (.getfield 40, 3) := by decide +kernel
theorem dX12_laysReached_17 : decode cX12_laysReached 17 = .ok (.iload_n 3, 1) := by decide +kernel
theorem dX12_laysReached_18 : decode cX12_laysReached 18 = .ok (.iload_n 3, 1) := by decide +kernel
theorem dX12_laysReached_19 : decode cX12_laysReached 19 = .ok (.iload_n 2, 1) := by decide +kernel
theorem dX12_laysReached_20 : decode cX12_laysReached 20 = .ok (.if_icmp .ne 7, 3) := by decide +kernel
theorem dX12_laysReached_23 : decode cX12_laysReached 23 = .ok (.iconst 1, 1) := by decide +kernel
theorem dX12_laysReached_24 : decode cX12_laysReached 24 = .ok (.goto 4, 3) := by decide +kernel
theorem dX12_laysReached_27 : decode cX12_laysReached 27 = .ok (.iconst 0, 1) := by decide +kernel
theorem dX12_laysReached_28 : decode cX12_laysReached 28 = .ok (.bastore, 1) := by decide +kernel
theorem dX12_laysReached_29 : decode cX12_laysReached 29 = .ok (.iinc 3 1, 3) := by decide +kernel
theorem dX12_laysReached_32 : decode cX12_laysReached 32 = .ok (.goto (-25), 3) := by decide +kernel
theorem dX12_laysReached_35 : decode cX12_laysReached 35 = .ok (.iload_n 2, 1) := by decide +kernel
theorem dX12_laysReached_36 : decode cX12_laysReached 36 = .ok (.istore_n 3, 1) := by decide +kernel
theorem dX12_laysReached_37 : decode cX12_laysReached 37 = .ok (.iload_n 3, 1) := by decide +kernel
theorem dX12_laysReached_38 : decode cX12_laysReached 38 = .ok (.ldc 39, 2) := by decide +kernel
theorem dX12_laysReached_40 : decode cX12_laysReached 40 = .ok (.if_icmp .ge 102, 3) := by decide +kernel
theorem dX12_laysReached_43 : decode cX12_laysReached 43 = .ok (.iconst 0, 1) := by decide +kernel
theorem dX12_laysReached_44 : decode cX12_laysReached 44 = .ok (.istore 4, 2) := by decide +kernel
theorem dX12_laysReached_46 : decode cX12_laysReached 46 = .ok (.iload 4, 2) := by decide +kernel
theorem dX12_laysReached_48 : decode cX12_laysReached 48 = .ok (.bipush 9, 2) := by decide +kernel
theorem dX12_laysReached_50 : decode cX12_laysReached 50 = .ok (.if_icmp .ge 86, 3) := by decide +kernel
theorem dX12_laysReached_53 : decode cX12_laysReached 53 = .ok (.aload_n 0, 1) := by decide +kernel
theorem dX12_laysReached_54 : decode cX12_laysReached 54 = .ok (.getfield 40, 3) := by decide +kernel
theorem dX12_laysReached_57 : decode cX12_laysReached 57 = .ok (.iload_n 3, 1) := by decide +kernel
theorem dX12_laysReached_58 : decode cX12_laysReached 58 = .ok (.baload, 1) := by decide +kernel
theorem dX12_laysReached_59 : decode cX12_laysReached 59 = .ok (.ifCond .eq 77, 3) := by decide +kernel
theorem dX12_laysReached_62 : decode cX12_laysReached 62 = .ok (.iload_n 1, 1) := by decide +kernel
theorem dX12_laysReached_63 : decode cX12_laysReached 63 = .ok (.sipush 511, 3) := by decide +kernel
theorem dX12_laysReached_66 : decode cX12_laysReached 66 = .ok (.if_icmp .ne 22, 3) := by decide +kernel
theorem dX12_laysReached_69 : decode cX12_laysReached 69 = .ok (.aload_n 0, 1) := by decide +kernel
theorem dX12_laysReached_70 : decode cX12_laysReached 70 = .ok (.getfield 44, 3) := by decide +kernel
theorem dX12_laysReached_73 : decode cX12_laysReached 73 = .ok (.bipush 9, 2) := by decide +kernel
theorem dX12_laysReached_75 : decode cX12_laysReached 75 = .ok (.iload_n 3, 1) := by decide +kernel
theorem dX12_laysReached_76 : decode cX12_laysReached 76 = .ok (.imul, 1) := by decide +kernel
theorem dX12_laysReached_77 : decode cX12_laysReached 77 = .ok (.iload 4, 2) := by decide +kernel
theorem dX12_laysReached_79 : decode cX12_laysReached 79 = .ok (.iadd, 1) := by decide +kernel
theorem dX12_laysReached_80 : decode cX12_laysReached 80 = .ok (.aload_n 0, 1) := by decide +kernel
theorem dX12_laysReached_81 : decode cX12_laysReached 81 = .ok (.iload_n 3, 1) := by decide +kernel
theorem dX12_laysReached_82 : decode cX12_laysReached 82 = .ok (.iload 4, 2) := by decide +kernel
theorem dX12_laysReached_84 : decode cX12_laysReached 84 = .ok (.invokevirtual 342, 3) := by decide +kernel
theorem dX12_laysReached_87 : decode cX12_laysReached 87 = .ok (.iastore, 1) := by decide +kernel
theorem dX12_laysReached_88 : decode cX12_laysReached 88 = .ok (.iload_n 1, 1) := by decide +kernel
theorem dX12_laysReached_89 : decode cX12_laysReached 89 = .ok (.i2l, 1) := by decide +kernel
theorem dX12_laysReached_90 : decode cX12_laysReached 90 = .ok (.iload 4, 2) := by decide +kernel
theorem dX12_laysReached_92 : decode cX12_laysReached 92 = .ok (.invokestatic 236, 3) := by decide +kernel
theorem dX12_laysReached_95 : decode cX12_laysReached 95 = .ok (.ifCond .eq 18, 3) := by decide +kernel
theorem dX12_laysReached_98 : decode cX12_laysReached 98 = .ok (.aload_n 0, 1) := by decide +kernel
theorem dX12_laysReached_99 : decode cX12_laysReached 99 = .ok (.getfield 44, 3) := by decide +kernel
theorem dX12_laysReached_102 : decode cX12_laysReached 102 = .ok (.bipush 9, 2) := by decide +kernel
theorem dX12_laysReached_104 : decode cX12_laysReached 104 = .ok (.iload_n 3, 1) := by decide +kernel
theorem dX12_laysReached_105 : decode cX12_laysReached 105 = .ok (.imul, 1) := by decide +kernel
theorem dX12_laysReached_106 : decode cX12_laysReached 106 = .ok (.iload 4, 2) := by decide +kernel
theorem dX12_laysReached_108 : decode cX12_laysReached 108 = .ok (.iadd, 1) := by decide +kernel
theorem dX12_laysReached_109 : decode cX12_laysReached 109 = .ok (.iaload, 1) := by decide +kernel
theorem dX12_laysReached_110 : decode cX12_laysReached 110 = .ok (.goto 4, 3) := by decide +kernel
theorem dX12_laysReached_113 : decode cX12_laysReached 113 = .ok (.iconst (-1), 1) := by decide +kernel
theorem dX12_laysReached_114 : decode cX12_laysReached 114 = .ok (.istore 5, 2) := by decide +kernel
theorem dX12_laysReached_116 : decode cX12_laysReached 116 = .ok (.iload 5, 2) := by decide +kernel
theorem dX12_laysReached_118 : decode cX12_laysReached 118 = .ok (.iconst (-1), 1) := by decide +kernel
theorem dX12_laysReached_119 : decode cX12_laysReached 119 = .ok (.if_icmp .eq 11, 3) := by decide +kernel
theorem dX12_laysReached_122 : decode cX12_laysReached 122 = .ok (.aload_n 0, 1) := by decide +kernel
theorem dX12_laysReached_123 : decode cX12_laysReached 123 = .ok (.getfield 40, 3) := by decide +kernel
theorem dX12_laysReached_126 : decode cX12_laysReached 126 = .ok (.iload 5, 2) := by decide +kernel
theorem dX12_laysReached_128 : decode cX12_laysReached 128 = .ok (.iconst 1, 1) := by decide +kernel
theorem dX12_laysReached_129 : decode cX12_laysReached 129 = .ok (.bastore, 1) := by decide +kernel
theorem dX12_laysReached_130 : decode cX12_laysReached 130 = .ok (.iinc 4 1, 3) := by decide +kernel
theorem dX12_laysReached_133 : decode cX12_laysReached 133 = .ok (.goto (-87), 3) := by decide +kernel
theorem dX12_laysReached_136 : decode cX12_laysReached 136 = .ok (.iinc 3 1, 3) := by decide +kernel
theorem dX12_laysReached_139 : decode cX12_laysReached 139 = .ok (.goto (-102), 3) := by decide +kernel
theorem dX12_laysReached_142 : decode cX12_laysReached 142 = .ok (.return_, 1) := by decide +kernel
theorem dX12_goals_0 : decode cX12_goals 0 = .ok (.aload_n 0, 1) := by decide +kernel
theorem dX12_goals_1 : decode cX12_goals 1 = .ok (.iload_n 1, 1) := by decide +kernel
theorem dX12_goals_2 : decode cX12_goals 2 = .ok (.putfield 345, 3) := by decide +kernel
theorem dX12_goals_5 : decode cX12_goals 5 = .ok (.aload_n 0, 1) := by decide +kernel
theorem dX12_goals_6 : decode cX12_goals 6 = .ok (.iload_n 2, 1) := by decide +kernel
theorem dX12_goals_7 : decode cX12_goals 7 = .ok (.putfield 348, 3) := by decide +kernel
theorem dX12_goals_10 : decode cX12_goals 10 = .ok (.aload_n 0, 1) := by decide +kernel
theorem dX12_goals_11 : decode cX12_goals 11 = .ok (.iconst (-1), 1) := by decide +kernel
theorem dX12_goals_12 : decode cX12_goals 12 = .ok (.putfield 351, 3) := by decide +kernel
theorem dX12_goals_15 : decode cX12_goals 15 = .ok (.return_, 1) := by decide +kernel
theorem dX12_isGoal_0 : decode cX12_isGoal 0 = .ok (.aload_n 0, 1) := by decide +kernel
theorem dX12_isGoal_1 : decode cX12_isGoal 1 = .ok (.getfield 351, 3) := by decide +kernel
theorem dX12_isGoal_4 : decode cX12_isGoal 4 = .ok (.iconst (-1), 1) := by decide +kernel
theorem dX12_isGoal_5 : decode cX12_isGoal 5 = .ok (.if_icmp .eq 43, 3) := by decide +kernel
theorem dX12_isGoal_8 : decode cX12_isGoal 8 = .ok (.aload_n 0, 1) := by decide +kernel
theorem dX12_isGoal_9 : decode cX12_isGoal 9 = .ok (.iload_n 1, 1) := by decide +kernel
theorem dX12_isGoal_10 : decode cX12_isGoal 10 = .ok (.aload_n 0, 1) := by decide +kernel
theorem dX12_isGoal_11 : decode cX12_isGoal 11 = .ok (.getfield 354, 3) := by decide +kernel
theorem dX12_isGoal_14 : decode cX12_isGoal 14 = .ok (.aload_n 0, 1) := by decide +kernel
theorem dX12_isGoal_15 : decode cX12_isGoal 15 = .ok (.getfield 351, 3) := by decide +kernel
theorem dX12_isGoal_18 : decode cX12_isGoal 18 = .ok (.invokevirtual 240, 3) := by decide +kernel
theorem dX12_isGoal_21 : decode cX12_isGoal 21 = .ok (.ifCond .eq 25, 3) := by decide +kernel
theorem dX12_isGoal_24 : decode cX12_isGoal 24 = .ok (.aload_n 0, 1) := by decide +kernel
theorem dX12_isGoal_25 : decode cX12_isGoal 25 = .ok (.iload_n 1, 1) := by decide +kernel
theorem dX12_isGoal_26 : decode cX12_isGoal 26 = .ok (.iconst 1, 1) := by decide +kernel
theorem dX12_isGoal_27 : decode cX12_isGoal 27 = .ok (.aload_n 0, 1) := by decide +kernel
theorem dX12_isGoal_28 : decode cX12_isGoal 28 = .ok (.getfield 354, 3) := by decide +kernel
theorem dX12_isGoal_31 : decode cX12_isGoal 31 = .ok (.isub, 1) := by decide +kernel
theorem dX12_isGoal_32 : decode cX12_isGoal 32 = .ok (.aload_n 0, 1) := by decide +kernel
theorem dX12_isGoal_33 : decode cX12_isGoal 33 = .ok (.getfield 351, 3) := by decide +kernel
theorem dX12_isGoal_36 : decode cX12_isGoal 36 = .ok (.invokevirtual 240, 3) := by decide +kernel
theorem dX12_isGoal_39 : decode cX12_isGoal 39 = .ok (.ifCond .ne 7, 3) := by decide +kernel
theorem dX12_isGoal_42 : decode cX12_isGoal 42 = .ok (.iconst 1, 1) := by decide +kernel
theorem dX12_isGoal_43 : decode cX12_isGoal 43 = .ok (.goto 4, 3) := by decide +kernel
theorem dX12_isGoal_46 : decode cX12_isGoal 46 = .ok (.iconst 0, 1) := by decide +kernel
theorem dX12_isGoal_47 : decode cX12_isGoal 47 = .ok (.ireturn, 1) := by decide +kernel
theorem dX12_isGoal_48 : decode cX12_isGoal 48 = .ok (.aload_n 0, 1) := by decide +kernel
theorem dX12_isGoal_49 : decode cX12_isGoal 49 = .ok (.iload_n 1, 1) := by decide +kernel
theorem dX12_isGoal_50 : decode cX12_isGoal 50 = .ok (.iconst 0, 1) := by decide +kernel
theorem dX12_isGoal_51 : decode cX12_isGoal 51 = .ok (.invokevirtual 244, 3) := by decide +kernel
theorem dX12_isGoal_54 : decode cX12_isGoal 54 = .ok (.aload_n 0, 1) := by decide +kernel
theorem dX12_isGoal_55 : decode cX12_isGoal 55 = .ok (.getfield 345, 3) := by decide +kernel
theorem dX12_isGoal_58 : decode cX12_isGoal 58 = .ok (.iand, 1) := by decide +kernel
theorem dX12_isGoal_59 : decode cX12_isGoal 59 = .ok (.aload_n 0, 1) := by decide +kernel
theorem dX12_isGoal_60 : decode cX12_isGoal 60 = .ok (.getfield 345, 3) := by decide +kernel
theorem dX12_isGoal_63 : decode cX12_isGoal 63 = .ok (.if_icmp .ne 25, 3) := by decide +kernel
theorem dX12_isGoal_66 : decode cX12_isGoal 66 = .ok (.aload_n 0, 1) := by decide +kernel
theorem dX12_isGoal_67 : decode cX12_isGoal 67 = .ok (.iload_n 1, 1) := by decide +kernel
theorem dX12_isGoal_68 : decode cX12_isGoal 68 = .ok (.iconst 1, 1) := by decide +kernel
theorem dX12_isGoal_69 : decode cX12_isGoal 69 = .ok (.invokevirtual 244, 3) := by decide +kernel
theorem dX12_isGoal_72 : decode cX12_isGoal 72 = .ok (.aload_n 0, 1) := by decide +kernel
theorem dX12_isGoal_73 : decode cX12_isGoal 73 = .ok (.getfield 348, 3) := by decide +kernel
theorem dX12_isGoal_76 : decode cX12_isGoal 76 = .ok (.iand, 1) := by decide +kernel
theorem dX12_isGoal_77 : decode cX12_isGoal 77 = .ok (.aload_n 0, 1) := by decide +kernel
theorem dX12_isGoal_78 : decode cX12_isGoal 78 = .ok (.getfield 348, 3) := by decide +kernel
theorem dX12_isGoal_81 : decode cX12_isGoal 81 = .ok (.if_icmp .ne 7, 3) := by decide +kernel
theorem dX12_isGoal_84 : decode cX12_isGoal 84 = .ok (.iconst 1, 1) := by decide +kernel
theorem dX12_isGoal_85 : decode cX12_isGoal 85 = .ok (.goto 4, 3) := by decide +kernel
theorem dX12_isGoal_88 : decode cX12_isGoal 88 = .ok (.iconst 0, 1) := by decide +kernel
theorem dX12_isGoal_89 : decode cX12_isGoal 89 = .ok (.ireturn, 1) := by decide +kernel
theorem dX12_stillBy_0 : decode cX12_stillBy 0 = .ok (.aload_n 0, 1) := by decide +kernel
theorem dX12_stillBy_1 : decode cX12_stillBy 1 = .ok (.getfield 44, 3) := by decide +kernel
theorem dX12_stillBy_4 : decode cX12_stillBy 4 = .ok (.bipush 9, 2) := by decide +kernel
theorem dX12_stillBy_6 : decode cX12_stillBy 6 = .ok (.iload_n 1, 1) := by decide +kernel
theorem dX12_stillBy_7 : decode cX12_stillBy 7 = .ok (.imul, 1) := by decide +kernel
theorem dX12_stillBy_8 : decode cX12_stillBy 8 = .ok (.iload_n 2, 1) := by decide +kernel
theorem dX12_stillBy_9 : decode cX12_stillBy 9 = .ok (.iadd, 1) := by decide +kernel
theorem dX12_stillBy_10 : decode cX12_stillBy 10 = .ok (.iaload, 1) := by decide +kernel
theorem dX12_stillBy_11 : decode cX12_stillBy 11 = .ok (.istore 4, 2) := by decide +kernel
theorem dX12_stillBy_13 : decode cX12_stillBy 13 = .ok (.iload 4, 2) := by decide +kernel
theorem dX12_stillBy_15 : decode cX12_stillBy 15 = .ok (.iconst (-1), 1) := by decide +kernel
theorem dX12_stillBy_16 : decode cX12_stillBy 16 = .ok (.if_icmp .eq 22, 3) := by decide +kernel
theorem dX12_stillBy_19 : decode cX12_stillBy 19 = .ok (.iload 4, 2) := by decide +kernel
theorem dX12_stillBy_21 : decode cX12_stillBy 21 = .ok (.iload_n 1, 1) := by decide +kernel
theorem dX12_stillBy_22 : decode cX12_stillBy 22 = .ok (.if_icmp .eq 16, 3) := by decide +kernel
theorem dX12_stillBy_25 : decode cX12_stillBy 25 = .ok (.aload_n 0, 1) := by decide +kernel
theorem dX12_stillBy_26 : decode cX12_stillBy 26 = .ok (.getfield 47, 3) := by decide +kernel
theorem dX12_stillBy_29 : decode cX12_stillBy 29 = .ok (.iload 4, 2) := by decide +kernel
theorem dX12_stillBy_31 : decode cX12_stillBy 31 = .ok (.iaload, 1) := by decide +kernel
theorem dX12_stillBy_32 : decode cX12_stillBy 32 = .ok (.ldc_w 357, 3) := by decide +kernel
theorem dX12_stillBy_35 : decode cX12_stillBy 35 = .ok (.if_icmp .ne 7, 3) := by decide +kernel
theorem dX12_stillBy_38 : decode cX12_stillBy 38 = .ok (.ldc_w 357, 3) := by decide +kernel
theorem dX12_stillBy_41 : decode cX12_stillBy 41 = .ok (.ireturn, 1) := by decide +kernel
theorem dX12_stillBy_42 : decode cX12_stillBy 42 = .ok (.aload_n 0, 1) := by decide +kernel
theorem dX12_stillBy_43 : decode cX12_stillBy 43 = .ok (.getfield 47, 3) := by decide +kernel
theorem dX12_stillBy_46 : decode cX12_stillBy 46 = .ok (.iload 4, 2) := by decide +kernel
theorem dX12_stillBy_48 : decode cX12_stillBy 48 = .ok (.iaload, 1) := by decide +kernel
theorem dX12_stillBy_49 : decode cX12_stillBy 49 = .ok (.iload_n 3, 1) := by decide +kernel
theorem dX12_stillBy_50 : decode cX12_stillBy 50 = .ok (.ifCond .eq 13, 3) := by decide +kernel
theorem dX12_stillBy_53 : decode cX12_stillBy 53 = .ok (.iload_n 2, 1) := by decide +kernel
theorem dX12_stillBy_54 : decode cX12_stillBy 54 = .ok (.bipush 8, 2) := by decide +kernel
theorem dX12_stillBy_56 : decode cX12_stillBy 56 = .ok (.if_icmp .ne 7, 3) := by decide +kernel
theorem dX12_stillBy_59 : decode cX12_stillBy 59 = .ok (.iconst 0, 1) := by decide +kernel
theorem dX12_stillBy_60 : decode cX12_stillBy 60 = .ok (.goto 4, 3) := by decide +kernel
theorem dX12_stillBy_63 : decode cX12_stillBy 63 = .ok (.iconst 1, 1) := by decide +kernel
theorem dX12_stillBy_64 : decode cX12_stillBy 64 = .ok (.iadd, 1) := by decide +kernel
theorem dX12_stillBy_65 : decode cX12_stillBy 65 = .ok (.ireturn, 1) := by decide +kernel
theorem dX12_laysStill_0 : decode cX12_laysStill 0 = .ok (.aload_n 0, 1) := by decide +kernel
theorem dX12_laysStill_1 : decode cX12_laysStill 1 = .ok (.iload_n 1, 1) := by decide +kernel
theorem dX12_laysStill_2 : decode cX12_laysStill 2 = .ok (.invokevirtual 358, 3) := by decide +kernel
theorem dX12_laysStill_5 : decode cX12_laysStill 5 = .ok (.aload_n 0, 1) := by decide +kernel
theorem dX12_laysStill_6 : decode cX12_laysStill 6 = .ok (.invokevirtual 260, 3) := by decide +kernel
theorem dX12_laysStill_9 : decode cX12_laysStill 9 = .ok (.istore_n 3, 1) := by decide +kernel
theorem dX12_laysStill_10 : decode cX12_laysStill 10 = .ok (.ldc_w 361, 3) := by decide +kernel
theorem dX12_laysStill_13 : decode cX12_laysStill 13 = .ok (.istore 4, 2) := by decide +kernel
theorem dX12_laysStill_15 : decode cX12_laysStill 15 = .ok (.iload 4, 2) := by decide +kernel
theorem dX12_laysStill_17 : decode cX12_laysStill 17 = .ok (.iload_n 3, 1) := by decide +kernel
theorem dX12_laysStill_18 : decode cX12_laysStill 18 = .ok (.if_icmp .lt 105, 3) := by decide +kernel
theorem dX12_laysStill_21 : decode cX12_laysStill 21 = .ok (.aload_n 0, 1) := by decide +kernel
theorem dX12_laysStill_22 : decode cX12_laysStill 22 = .ok (.getfield 40, 3) := by decide +kernel
theorem dX12_laysStill_25 : decode cX12_laysStill 25 = .ok (.iload 4, 2) := by decide +kernel
theorem dX12_laysStill_27 : decode cX12_laysStill 27 = .ok (.baload, 1) := by decide +kernel
theorem dX12_laysStill_28 : decode cX12_laysStill 28 = .ok (.ifCond .ne 6, 3) := by decide +kernel
theorem dX12_laysStill_31 : decode cX12_laysStill 31 = .ok (.goto 86, 3) := by decide +kernel
theorem dX12_laysStill_34 : decode cX12_laysStill 34 = .ok (.aload_n 0, 1) := by decide +kernel
theorem dX12_laysStill_35 : decode cX12_laysStill 35 = .ok (.iload 4, 2) := by decide +kernel
theorem dX12_laysStill_37 : decode cX12_laysStill 37 = .ok (.invokevirtual 362, 3) := by decide +kernel
theorem dX12_laysStill_40 : decode cX12_laysStill 40 = .ok (.ifCond .eq 7, 3) := by decide +kernel
theorem dX12_laysStill_43 : decode cX12_laysStill 43 = .ok (.iconst 0, 1) := by decide +kernel
theorem dX12_laysStill_44 : decode cX12_laysStill 44 = .ok (.goto 6, 3) := by decide +kernel
theorem dX12_laysStill_47 : decode cX12_laysStill 47 = .ok (.ldc_w 357, 3) := by decide +kernel
theorem dX12_laysStill_50 : decode cX12_laysStill 50 = .ok (.istore 5, 2) := by decide +kernel
theorem dX12_laysStill_52 : decode cX12_laysStill 52 = .ok (.iconst 0, 1) := by decide +kernel
theorem dX12_laysStill_53 : decode cX12_laysStill 53 = .ok (.istore 6, 2) := by decide +kernel
theorem dX12_laysStill_55 : decode cX12_laysStill 55 = .ok (.iload 6, 2) := by decide +kernel
theorem dX12_laysStill_57 : decode cX12_laysStill 57 = .ok (.bipush 9, 2) := by decide +kernel
theorem dX12_laysStill_59 : decode cX12_laysStill 59 = .ok (.if_icmp .ge 49, 3) := by decide +kernel
theorem dX12_laysStill_62 : decode cX12_laysStill 62 = .ok (.iload 5, 2) := by decide +kernel
theorem dX12_laysStill_64 : decode cX12_laysStill 64 = .ok (.ifCond .le 44, 3) := by decide +kernel
theorem dX12_laysStill_67 : decode cX12_laysStill 67 = .ok (.iload_n 1, 1) := by decide +kernel
theorem dX12_laysStill_68 : decode cX12_laysStill 68 = .ok (.i2l, 1) := by decide +kernel
theorem dX12_laysStill_69 : decode cX12_laysStill 69 = .ok (.iload 6, 2) := by decide +kernel
theorem dX12_laysStill_71 : decode cX12_laysStill 71 = .ok (.invokestatic 236, 3) := by decide +kernel
theorem dX12_laysStill_74 : decode cX12_laysStill 74 = .ok (.ifCond .eq 28, 3) := by decide +kernel
theorem dX12_laysStill_77 : decode cX12_laysStill 77 = .ok (.aload_n 0, 1) := by decide +kernel
theorem dX12_laysStill_78 : decode cX12_laysStill 78 = .ok (.iload 4, 2) := by decide +kernel
theorem dX12_laysStill_80 : decode cX12_laysStill 80 = .ok (.iload 6, 2) := by decide +kernel
theorem dX12_laysStill_82 : decode cX12_laysStill 82 = .ok (.iload_n 2, 1) := by decide +kernel
theorem dX12_laysStill_83 : decode cX12_laysStill 83 = .ok (.invokevirtual 365, 3) := by decide +kernel
theorem dX12_laysStill_86 : decode cX12_laysStill 86 = .ok (.iload 5, 2) := by decide +kernel
theorem dX12_laysStill_88 : decode cX12_laysStill 88 = .ok (.if_icmp .ge 14, 3) := by decide +kernel
theorem dX12_laysStill_91 : decode cX12_laysStill 91 = .ok (.aload_n 0, 1) := by decide +kernel
theorem dX12_laysStill_92 : decode cX12_laysStill 92 = .ok (.iload 4, 2) := by decide +kernel
theorem dX12_laysStill_94 : decode cX12_laysStill 94 = .ok (.iload 6, 2) := by decide +kernel
theorem dX12_laysStill_96 : decode cX12_laysStill 96 = .ok (.iload_n 2, 1) := by decide +kernel
theorem dX12_laysStill_97 : decode cX12_laysStill 97 = .ok (.invokevirtual 365, 3) := by decide +kernel
theorem dX12_laysStill_100 : decode cX12_laysStill 100 = .ok (.istore 5, 2) := by decide +kernel
theorem dX12_laysStill_102 : decode cX12_laysStill 102 = .ok (.iinc 6 1, 3) := by decide +kernel
theorem dX12_laysStill_105 : decode cX12_laysStill 105 = .ok (.goto (-50), 3) := by decide +kernel
theorem dX12_laysStill_108 : decode cX12_laysStill 108 = .ok (.aload_n 0, 1) := by decide +kernel
theorem dX12_laysStill_109 : decode cX12_laysStill 109 = .ok (.getfield 47, 3) := by decide +kernel
theorem dX12_laysStill_112 : decode cX12_laysStill 112 = .ok (.iload 4, 2) := by decide +kernel
theorem dX12_laysStill_114 : decode cX12_laysStill 114 = .ok (.iload 5, 2) := by decide +kernel
theorem dX12_laysStill_116 : decode cX12_laysStill 116 = .ok (.iastore, 1) := by decide +kernel
theorem dX12_laysStill_117 : decode cX12_laysStill 117 = .ok (.iinc 4 (-1), 3) := by decide +kernel
theorem dX12_laysStill_120 : decode cX12_laysStill 120 = .ok (.goto (-105), 3) := by decide +kernel
theorem dX12_laysStill_123 : decode cX12_laysStill 123 = .ok (.aload_n 0, 1) := by decide +kernel
theorem dX12_laysStill_124 : decode cX12_laysStill 124 = .ok (.getfield 47, 3) := by decide +kernel
theorem dX12_laysStill_127 : decode cX12_laysStill 127 = .ok (.iload_n 3, 1) := by decide +kernel
theorem dX12_laysStill_128 : decode cX12_laysStill 128 = .ok (.iaload, 1) := by decide +kernel
theorem dX12_laysStill_129 : decode cX12_laysStill 129 = .ok (.ireturn, 1) := by decide +kernel
theorem dX12_toldFar_0 : decode cX12_toldFar 0 = .ok (.iload_n 0, 1) := by decide +kernel
theorem dX12_toldFar_1 : decode cX12_toldFar 1 = .ok (.ldc_w 357, 3) := by decide +kernel
theorem dX12_toldFar_4 : decode cX12_toldFar 4 = .ok (.if_icmp .ne 7, 3) := by decide +kernel
theorem dX12_toldFar_7 : decode cX12_toldFar 7 = .ok (.iconst (-1), 1) := by decide +kernel
theorem dX12_toldFar_8 : decode cX12_toldFar 8 = .ok (.goto 4, 3) := by decide +kernel
theorem dX12_toldFar_11 : decode cX12_toldFar 11 = .ok (.iload_n 0, 1) := by decide +kernel
theorem dX12_toldFar_12 : decode cX12_toldFar 12 = .ok (.ireturn, 1) := by decide +kernel
theorem dX12_moveAt_0 : decode cX12_moveAt 0 = .ok (.aload_n 0, 1) := by decide +kernel
theorem dX12_moveAt_1 : decode cX12_moveAt 1 = .ok (.invokevirtual 260, 3) := by decide +kernel
theorem dX12_moveAt_4 : decode cX12_moveAt 4 = .ok (.istore_n 2, 1) := by decide +kernel
theorem dX12_moveAt_5 : decode cX12_moveAt 5 = .ok (.aload_n 0, 1) := by decide +kernel
theorem dX12_moveAt_6 : decode cX12_moveAt 6 = .ok (.getfield 47, 3) := by decide +kernel
theorem dX12_moveAt_9 : decode cX12_moveAt 9 = .ok (.iload_n 2, 1) := by decide +kernel
theorem dX12_moveAt_10 : decode cX12_moveAt 10 = .ok (.iaload, 1) := by decide +kernel
theorem dX12_moveAt_11 : decode cX12_moveAt 11 = .ok (.ldc_w 357, 3) := by decide +kernel
theorem dX12_moveAt_14 : decode cX12_moveAt 14 = .ok (.if_icmp .ne 5, 3) := by decide +kernel
theorem dX12_moveAt_17 : decode cX12_moveAt 17 = .ok (.iconst (-1), 1) := by decide +kernel
theorem dX12_moveAt_18 : decode cX12_moveAt 18 = .ok (.ireturn, 1) := by decide +kernel
theorem dX12_moveAt_19 : decode cX12_moveAt 19 = .ok (.iconst 0, 1) := by decide +kernel
theorem dX12_moveAt_20 : decode cX12_moveAt 20 = .ok (.istore_n 3, 1) := by decide +kernel
theorem dX12_moveAt_21 : decode cX12_moveAt 21 = .ok (.aload_n 0, 1) := by decide +kernel
theorem dX12_moveAt_22 : decode cX12_moveAt 22 = .ok (.getfield 47, 3) := by decide +kernel
theorem dX12_moveAt_25 : decode cX12_moveAt 25 = .ok (.iload_n 2, 1) := by decide +kernel
theorem dX12_moveAt_26 : decode cX12_moveAt 26 = .ok (.iaload, 1) := by decide +kernel
theorem dX12_moveAt_27 : decode cX12_moveAt 27 = .ok (.ifCond .le 59, 3) := by decide +kernel
theorem dX12_moveAt_30 : decode cX12_moveAt 30 = .ok (.iconst 0, 1) := by decide +kernel
theorem dX12_moveAt_31 : decode cX12_moveAt 31 = .ok (.istore 4, 2) := by decide +kernel
theorem dX12_moveAt_33 : decode cX12_moveAt 33 = .ok (.aload_n 0, 1) := by decide +kernel
theorem dX12_moveAt_34 : decode cX12_moveAt 34 = .ok (.iload_n 2, 1) := by decide +kernel
theorem dX12_moveAt_35 : decode cX12_moveAt 35 = .ok (.iload 4, 2) := by decide +kernel
theorem dX12_moveAt_37 : decode cX12_moveAt 37 = .ok (.iconst 0, 1) := by decide +kernel
theorem dX12_moveAt_38 : decode cX12_moveAt 38 = .ok (.invokevirtual 365, 3) := by decide +kernel
theorem dX12_moveAt_41 : decode cX12_moveAt 41 = .ok (.aload_n 0, 1) := by decide +kernel
theorem dX12_moveAt_42 : decode cX12_moveAt 42 = .ok (.getfield 47, 3) := by decide +kernel
theorem dX12_moveAt_45 : decode cX12_moveAt 45 = .ok (.iload_n 2, 1) := by decide +kernel
theorem dX12_moveAt_46 : decode cX12_moveAt 46 = .ok (.iaload, 1) := by decide +kernel
theorem dX12_moveAt_47 : decode cX12_moveAt 47 = .ok (.if_icmp .eq 9, 3) := by decide +kernel
theorem dX12_moveAt_50 : decode cX12_moveAt 50 = .ok (.iinc 4 1, 3) := by decide +kernel
theorem dX12_moveAt_53 : decode cX12_moveAt 53 = .ok (.goto (-20), 3) := by decide +kernel
theorem dX12_moveAt_56 : decode cX12_moveAt 56 = .ok (.iload_n 3, 1) := by decide +kernel
theorem dX12_moveAt_57 : decode cX12_moveAt 57 = .ok (.iload_n 1, 1) := by decide +kernel
theorem dX12_moveAt_58 : decode cX12_moveAt 58 = .ok (.if_icmp .ne 9, 3) := by decide +kernel
theorem dX12_moveAt_61 : decode cX12_moveAt 61 = .ok (.iload 4, 2) := by decide +kernel
theorem dX12_moveAt_63 : decode cX12_moveAt 63 = .ok (.invokestatic 369, 3) := by decide +kernel
theorem dX12_moveAt_66 : decode cX12_moveAt 66 = .ok (.ireturn, 1) := by decide +kernel
theorem dX12_moveAt_67 : decode cX12_moveAt 67 = .ok (.aload_n 0, 1) := by decide +kernel
theorem dX12_moveAt_68 : decode cX12_moveAt 68 = .ok (.getfield 44, 3) := by decide +kernel
theorem dX12_moveAt_71 : decode cX12_moveAt 71 = .ok (.bipush 9, 2) := by decide +kernel
theorem dX12_moveAt_73 : decode cX12_moveAt 73 = .ok (.iload_n 2, 1) := by decide +kernel
theorem dX12_moveAt_74 : decode cX12_moveAt 74 = .ok (.imul, 1) := by decide +kernel
theorem dX12_moveAt_75 : decode cX12_moveAt 75 = .ok (.iload 4, 2) := by decide +kernel
theorem dX12_moveAt_77 : decode cX12_moveAt 77 = .ok (.iadd, 1) := by decide +kernel
theorem dX12_moveAt_78 : decode cX12_moveAt 78 = .ok (.iaload, 1) := by decide +kernel
theorem dX12_moveAt_79 : decode cX12_moveAt 79 = .ok (.istore_n 2, 1) := by decide +kernel
theorem dX12_moveAt_80 : decode cX12_moveAt 80 = .ok (.iinc 3 1, 3) := by decide +kernel
theorem dX12_moveAt_83 : decode cX12_moveAt 83 = .ok (.goto (-62), 3) := by decide +kernel
theorem dX12_moveAt_86 : decode cX12_moveAt 86 = .ok (.iconst (-1), 1) := by decide +kernel
theorem dX12_moveAt_87 : decode cX12_moveAt 87 = .ok (.ireturn, 1) := by decide +kernel
theorem dX12_areSets_0 : decode cX12_areSets 0 = .ok (.aload_n 0, 1) := by decide +kernel
theorem dX12_areSets_1 : decode cX12_areSets 1 = .ok (.iload_n 1, 1) := by decide +kernel
theorem dX12_areSets_2 : decode cX12_areSets 2 = .ok (.invokevirtual 372, 3) := by decide +kernel
theorem dX12_areSets_5 : decode cX12_areSets 5 = .ok (.ifCond .eq 15, 3) := by decide +kernel
theorem dX12_areSets_8 : decode cX12_areSets 8 = .ok (.aload_n 0, 1) := by decide +kernel
theorem dX12_areSets_9 : decode cX12_areSets 9 = .ok (.iload_n 2, 1) := by decide +kernel
theorem dX12_areSets_10 : decode cX12_areSets 10 = .ok (.invokevirtual 372, 3) := by decide +kernel
theorem dX12_areSets_13 : decode cX12_areSets 13 = .ok (.ifCond .eq 7, 3) := by decide +kernel
theorem dX12_areSets_16 : decode cX12_areSets 16 = .ok (.iconst 1, 1) := by decide +kernel
theorem dX12_areSets_17 : decode cX12_areSets 17 = .ok (.goto 4, 3) := by decide +kernel
theorem dX12_areSets_20 : decode cX12_areSets 20 = .ok (.iconst 0, 1) := by decide +kernel
theorem dX12_areSets_21 : decode cX12_areSets 21 = .ok (.ireturn, 1) := by decide +kernel
theorem dX12_soonest_0 : decode cX12_soonest 0 = .ok (.aload_n 0, 1) := by decide +kernel
theorem dX12_soonest_1 : decode cX12_soonest 1 = .ok (.iconst 0, 1) := by decide +kernel
theorem dX12_soonest_2 : decode cX12_soonest 2 = .ok (.putfield 1, 3) := by decide +kernel
theorem dX12_soonest_5 : decode cX12_soonest 5 = .ok (.aload_n 0, 1) := by decide +kernel
theorem dX12_soonest_6 : decode cX12_soonest 6 = .ok (.iload_n 1, 1) := by decide +kernel
theorem dX12_soonest_7 : decode cX12_soonest 7 = .ok (.iload_n 2, 1) := by decide +kernel
theorem dX12_soonest_8 : decode cX12_soonest 8 = .ok (.invokevirtual 375, 3) := by decide +kernel
theorem dX12_soonest_11 : decode cX12_soonest 11 = .ok (.ifCond .ne 6, 3) := by decide +kernel
theorem dX12_soonest_14 : decode cX12_soonest 14 = .ok (.bipush (-3), 2) := by decide +kernel
theorem dX12_soonest_16 : decode cX12_soonest 16 = .ok (.ireturn, 1) := by decide +kernel
theorem dX12_soonest_17 : decode cX12_soonest 17 = .ok (.aload_n 0, 1) := by decide +kernel
theorem dX12_soonest_18 : decode cX12_soonest 18 = .ok (.iload_n 1, 1) := by decide +kernel
theorem dX12_soonest_19 : decode cX12_soonest 19 = .ok (.iload_n 2, 1) := by decide +kernel
theorem dX12_soonest_20 : decode cX12_soonest 20 = .ok (.invokevirtual 379, 3) := by decide +kernel
theorem dX12_soonest_23 : decode cX12_soonest 23 = .ok (.aload_n 0, 1) := by decide +kernel
theorem dX12_soonest_24 : decode cX12_soonest 24 = .ok (.sipush 511, 3) := by decide +kernel
theorem dX12_soonest_27 : decode cX12_soonest 27 = .ok (.iconst 0, 1) := by decide +kernel
theorem dX12_soonest_28 : decode cX12_soonest 28 = .ok (.invokevirtual 383, 3) := by decide +kernel
theorem dX12_soonest_31 : decode cX12_soonest 31 = .ok (.invokestatic 387, 3) := by decide +kernel
theorem dX12_soonest_34 : decode cX12_soonest 34 = .ok (.ireturn, 1) := by decide +kernel
theorem dX12_way_0 : decode cX12_way 0 = .ok (.aload_n 0, 1) := by decide +kernel
theorem dX12_way_1 : decode cX12_way 1 = .ok (.iconst 0, 1) := by decide +kernel
theorem dX12_way_2 : decode cX12_way 2 = .ok (.putfield 1, 3) := by decide +kernel
theorem dX12_way_5 : decode cX12_way 5 = .ok (.aload_n 0, 1) := by decide +kernel
theorem dX12_way_6 : decode cX12_way 6 = .ok (.iload_n 1, 1) := by decide +kernel
theorem dX12_way_7 : decode cX12_way 7 = .ok (.iload_n 2, 1) := by decide +kernel
theorem dX12_way_8 : decode cX12_way 8 = .ok (.invokevirtual 375, 3) := by decide +kernel
theorem dX12_way_11 : decode cX12_way 11 = .ok (.ifCond .eq 7, 3) := by decide +kernel
theorem dX12_way_14 : decode cX12_way 14 = .ok (.iload_n 3, 1) := by decide +kernel
theorem dX12_way_15 : decode cX12_way 15 = .ok (.ifCond .ge 6, 3) := by decide +kernel
theorem dX12_way_18 : decode cX12_way 18 = .ok (.bipush (-3), 2) := by decide +kernel
theorem dX12_way_20 : decode cX12_way 20 = .ok (.ireturn, 1) := by decide +kernel
theorem dX12_way_21 : decode cX12_way 21 = .ok (.aload_n 0, 1) := by decide +kernel
theorem dX12_way_22 : decode cX12_way 22 = .ok (.iload_n 1, 1) := by decide +kernel
theorem dX12_way_23 : decode cX12_way 23 = .ok (.iload_n 2, 1) := by decide +kernel
theorem dX12_way_24 : decode cX12_way 24 = .ok (.invokevirtual 379, 3) := by decide +kernel
theorem dX12_way_27 : decode cX12_way 27 = .ok (.aload_n 0, 1) := by decide +kernel
theorem dX12_way_28 : decode cX12_way 28 = .ok (.sipush 511, 3) := by decide +kernel
theorem dX12_way_31 : decode cX12_way 31 = .ok (.iconst 0, 1) := by decide +kernel
theorem dX12_way_32 : decode cX12_way 32 = .ok (.invokevirtual 383, 3) := by decide +kernel
theorem dX12_way_35 : decode cX12_way 35 = .ok (.pop, 1) := by decide +kernel
theorem dX12_way_36 : decode cX12_way 36 = .ok (.aload_n 0, 1) := by decide +kernel
theorem dX12_way_37 : decode cX12_way 37 = .ok (.iload_n 3, 1) := by decide +kernel
theorem dX12_way_38 : decode cX12_way 38 = .ok (.invokevirtual 390, 3) := by decide +kernel
theorem dX12_way_41 : decode cX12_way 41 = .ok (.ireturn, 1) := by decide +kernel
theorem dX12_laysAlone_0 : decode cX12_laysAlone 0 = .ok (.aload_n 0, 1) := by decide +kernel
theorem dX12_laysAlone_1 : decode cX12_laysAlone 1 = .ok (.iload_n 1, 1) := by decide +kernel
theorem dX12_laysAlone_2 : decode cX12_laysAlone 2 = .ok (.putfield 354, 3) := by decide +kernel
theorem dX12_laysAlone_5 : decode cX12_laysAlone 5 = .ok (.aload_n 0, 1) := by decide +kernel
theorem dX12_laysAlone_6 : decode cX12_laysAlone 6 = .ok (.iload_n 2, 1) := by decide +kernel
theorem dX12_laysAlone_7 : decode cX12_laysAlone 7 = .ok (.putfield 351, 3) := by decide +kernel
theorem dX12_laysAlone_10 : decode cX12_laysAlone 10 = .ok (.aload_n 0, 1) := by decide +kernel
theorem dX12_laysAlone_11 : decode cX12_laysAlone 11 = .ok (.sipush 511, 3) := by decide +kernel
theorem dX12_laysAlone_14 : decode cX12_laysAlone 14 = .ok (.iconst 0, 1) := by decide +kernel
theorem dX12_laysAlone_15 : decode cX12_laysAlone 15 = .ok (.invokevirtual 383, 3) := by decide +kernel
theorem dX12_laysAlone_18 : decode cX12_laysAlone 18 = .ok (.ireturn, 1) := by decide +kernel
theorem dX12_alone_0 : decode cX12_alone 0 = .ok (.aload_n 0, 1) := by decide +kernel
theorem dX12_alone_1 : decode cX12_alone 1 = .ok (.iconst 0, 1) := by decide +kernel
theorem dX12_alone_2 : decode cX12_alone 2 = .ok (.putfield 1, 3) := by decide +kernel
theorem dX12_alone_5 : decode cX12_alone 5 = .ok (.iload_n 1, 1) := by decide +kernel
theorem dX12_alone_6 : decode cX12_alone 6 = .ok (.i2l, 1) := by decide +kernel
theorem dX12_alone_7 : decode cX12_alone 7 = .ok (.invokestatic 250, 3) := by decide +kernel
theorem dX12_alone_10 : decode cX12_alone 10 = .ok (.ifCond .eq 23, 3) := by decide +kernel
theorem dX12_alone_13 : decode cX12_alone 13 = .ok (.aload_n 0, 1) := by decide +kernel
theorem dX12_alone_14 : decode cX12_alone 14 = .ok (.iload_n 2, 1) := by decide +kernel
theorem dX12_alone_15 : decode cX12_alone 15 = .ok (.invokevirtual 257, 3) := by decide +kernel
theorem dX12_alone_18 : decode cX12_alone 18 = .ok (.ifCond .eq 15, 3) := by decide +kernel
theorem dX12_alone_21 : decode cX12_alone 21 = .ok (.aload_n 0, 1) := by decide +kernel
theorem dX12_alone_22 : decode cX12_alone 22 = .ok (.iload_n 1, 1) := by decide +kernel
theorem dX12_alone_23 : decode cX12_alone 23 = .ok (.iload_n 2, 1) := by decide +kernel
theorem dX12_alone_24 : decode cX12_alone 24 = .ok (.invokevirtual 393, 3) := by decide +kernel
theorem dX12_alone_27 : decode cX12_alone 27 = .ok (.invokestatic 387, 3) := by decide +kernel
theorem dX12_alone_30 : decode cX12_alone 30 = .ok (.goto 5, 3) := by decide +kernel
theorem dX12_alone_33 : decode cX12_alone 33 = .ok (.bipush (-2), 2) := by decide +kernel
theorem dX12_alone_35 : decode cX12_alone 35 = .ok (.ireturn, 1) := by decide +kernel
theorem dX12_aloneWay_0 : decode cX12_aloneWay 0 = .ok (.aload_n 0, 1) := by decide +kernel
theorem dX12_aloneWay_1 : decode cX12_aloneWay 1 = .ok (.iconst 0, 1) := by decide +kernel
theorem dX12_aloneWay_2 : decode cX12_aloneWay 2 = .ok (.putfield 1, 3) := by decide +kernel
theorem dX12_aloneWay_5 : decode cX12_aloneWay 5 = .ok (.iload_n 1, 1) := by decide +kernel
theorem dX12_aloneWay_6 : decode cX12_aloneWay 6 = .ok (.i2l, 1) := by decide +kernel
theorem dX12_aloneWay_7 : decode cX12_aloneWay 7 = .ok (.invokestatic 250, 3) := by decide +kernel
theorem dX12_aloneWay_10 : decode cX12_aloneWay 10 = .ok (.ifCond .eq 11, 3) := by decide +kernel
theorem dX12_aloneWay_13 : decode cX12_aloneWay 13 = .ok (.aload_n 0, 1) := by decide +kernel
theorem dX12_aloneWay_14 : decode cX12_aloneWay 14 = .ok (.iload_n 2, 1) := by decide +kernel
theorem dX12_aloneWay_15 : decode cX12_aloneWay 15 = .ok (.invokevirtual 257, 3) := by decide +kernel
theorem dX12_aloneWay_18 : decode cX12_aloneWay 18 = .ok (.ifCond .ne 6, 3) := by decide +kernel
theorem dX12_aloneWay_21 : decode cX12_aloneWay 21 = .ok (.bipush (-2), 2) := by decide +kernel
theorem dX12_aloneWay_23 : decode cX12_aloneWay 23 = .ok (.ireturn, 1) := by decide +kernel
theorem dX12_aloneWay_24 : decode cX12_aloneWay 24 = .ok (.iload_n 3, 1) := by decide +kernel
theorem dX12_aloneWay_25 : decode cX12_aloneWay 25 = .ok (.ifCond .ge 6, 3) := by decide +kernel
theorem dX12_aloneWay_28 : decode cX12_aloneWay 28 = .ok (.bipush (-3), 2) := by decide +kernel
theorem dX12_aloneWay_30 : decode cX12_aloneWay 30 = .ok (.ireturn, 1) := by decide +kernel
theorem dX12_aloneWay_31 : decode cX12_aloneWay 31 = .ok (.aload_n 0, 1) := by decide +kernel
theorem dX12_aloneWay_32 : decode cX12_aloneWay 32 = .ok (.iload_n 1, 1) := by decide +kernel
theorem dX12_aloneWay_33 : decode cX12_aloneWay 33 = .ok (.iload_n 2, 1) := by decide +kernel
theorem dX12_aloneWay_34 : decode cX12_aloneWay 34 = .ok (.invokevirtual 393, 3) := by decide +kernel
theorem dX12_aloneWay_37 : decode cX12_aloneWay 37 = .ok (.pop, 1) := by decide +kernel
theorem dX12_aloneWay_38 : decode cX12_aloneWay 38 = .ok (.aload_n 0, 1) := by decide +kernel
theorem dX12_aloneWay_39 : decode cX12_aloneWay 39 = .ok (.iload_n 3, 1) := by decide +kernel
theorem dX12_aloneWay_40 : decode cX12_aloneWay 40 = .ok (.invokevirtual 390, 3) := by decide +kernel
theorem dX12_aloneWay_43 : decode cX12_aloneWay 43 = .ok (.ireturn, 1) := by decide +kernel
theorem dX12_goesMany_0 : decode cX12_goesMany 0 = .ok (.iload_n 1, 1) := by decide +kernel
theorem dX12_goesMany_1 : decode cX12_goesMany 1 = .ok (.istore_n 2, 1) := by decide +kernel
theorem dX12_goesMany_2 : decode cX12_goesMany 2 = .ok (.iload_n 2, 1) := by decide +kernel
theorem dX12_goesMany_3 : decode cX12_goesMany 3 = .ok (.ldc 39, 2) := by decide +kernel
theorem dX12_goesMany_5 : decode cX12_goesMany 5 = .ok (.if_icmp .ge 69, 3) := by decide +kernel
theorem dX12_goesMany_8 : decode cX12_goesMany 8 = .ok (.iconst 0, 1) := by decide +kernel
theorem dX12_goesMany_9 : decode cX12_goesMany 9 = .ok (.istore_n 3, 1) := by decide +kernel
theorem dX12_goesMany_10 : decode cX12_goesMany 10 = .ok (.iload_n 3, 1) := by decide +kernel
theorem dX12_goesMany_11 : decode cX12_goesMany 11 = .ok (.bipush 9, 2) := by decide +kernel
theorem dX12_goesMany_13 : decode cX12_goesMany 13 = .ok (.if_icmp .ge 55, 3) := by decide +kernel
theorem dX12_goesMany_16 : decode cX12_goesMany 16 = .ok (.aload_n 0, 1) := by decide +kernel
theorem dX12_goesMany_17 : decode cX12_goesMany 17 = .ok (.getfield 50, 3) := by decide +kernel
theorem dX12_goesMany_20 : decode cX12_goesMany 20 = .ok (.iload_n 2, 1) := by decide +kernel
theorem dX12_goesMany_21 : decode cX12_goesMany 21 = .ok (.laload, 1) := by decide +kernel
theorem dX12_goesMany_22 : decode cX12_goesMany 22 = .ok (.lconst 0, 1) := by decide +kernel
theorem dX12_goesMany_23 : decode cX12_goesMany 23 = .ok (.lcmp, 1) := by decide +kernel
theorem dX12_goesMany_24 : decode cX12_goesMany 24 = .ok (.ifCond .le 44, 3) := by decide +kernel
theorem dX12_goesMany_27 : decode cX12_goesMany 27 = .ok (.aload_n 0, 1) := by decide +kernel
theorem dX12_goesMany_28 : decode cX12_goesMany 28 = .ok (.getfield 44, 3) := by decide +kernel
theorem dX12_goesMany_31 : decode cX12_goesMany 31 = .ok (.bipush 9, 2) := by decide +kernel
theorem dX12_goesMany_33 : decode cX12_goesMany 33 = .ok (.iload_n 2, 1) := by decide +kernel
theorem dX12_goesMany_34 : decode cX12_goesMany 34 = .ok (.imul, 1) := by decide +kernel
theorem dX12_goesMany_35 : decode cX12_goesMany 35 = .ok (.iload_n 3, 1) := by decide +kernel
theorem dX12_goesMany_36 : decode cX12_goesMany 36 = .ok (.iadd, 1) := by decide +kernel
theorem dX12_goesMany_37 : decode cX12_goesMany 37 = .ok (.iaload, 1) := by decide +kernel
theorem dX12_goesMany_38 : decode cX12_goesMany 38 = .ok (.istore 4, 2) := by decide +kernel
theorem dX12_goesMany_40 : decode cX12_goesMany 40 = .ok (.iload 4, 2) := by decide +kernel
theorem dX12_goesMany_42 : decode cX12_goesMany 42 = .ok (.iconst (-1), 1) := by decide +kernel
theorem dX12_goesMany_43 : decode cX12_goesMany 43 = .ok (.if_icmp .eq 19, 3) := by decide +kernel
theorem dX12_goesMany_46 : decode cX12_goesMany 46 = .ok (.aload_n 0, 1) := by decide +kernel
theorem dX12_goesMany_47 : decode cX12_goesMany 47 = .ok (.getfield 54, 3) := by decide +kernel
theorem dX12_goesMany_50 : decode cX12_goesMany 50 = .ok (.iload 4, 2) := by decide +kernel
theorem dX12_goesMany_52 : decode cX12_goesMany 52 = .ok (.dup2, 1) := by decide +kernel
theorem dX12_goesMany_53 : decode cX12_goesMany 53 = .ok (.laload, 1) := by decide +kernel
theorem dX12_goesMany_54 : decode cX12_goesMany 54 = .ok (.aload_n 0, 1) := by decide +kernel
theorem dX12_goesMany_55 : decode cX12_goesMany 55 = .ok (.getfield 50, 3) := by decide +kernel
theorem dX12_goesMany_58 : decode cX12_goesMany 58 = .ok (.iload_n 2, 1) := by decide +kernel
theorem dX12_goesMany_59 : decode cX12_goesMany 59 = .ok (.laload, 1) := by decide +kernel
theorem dX12_goesMany_60 : decode cX12_goesMany 60 = .ok (.ladd, 1) := by decide +kernel
theorem dX12_goesMany_61 : decode cX12_goesMany 61 = .ok (.lastore, 1) := by decide +kernel
theorem dX12_goesMany_62 : decode cX12_goesMany 62 = .ok (.iinc 3 1, 3) := by decide +kernel
theorem dX12_goesMany_65 : decode cX12_goesMany 65 = .ok (.goto (-55), 3) := by decide +kernel
theorem dX12_goesMany_68 : decode cX12_goesMany 68 = .ok (.iinc 2 1, 3) := by decide +kernel
theorem dX12_goesMany_71 : decode cX12_goesMany 71 = .ok (.goto (-69), 3) := by decide +kernel
theorem dX12_goesMany_74 : decode cX12_goesMany 74 = .ok (.iload_n 1, 1) := by decide +kernel
theorem dX12_goesMany_75 : decode cX12_goesMany 75 = .ok (.istore_n 2, 1) := by decide +kernel
theorem dX12_goesMany_76 : decode cX12_goesMany 76 = .ok (.iload_n 2, 1) := by decide +kernel
theorem dX12_goesMany_77 : decode cX12_goesMany 77 = .ok (.ldc 39, 2) := by decide +kernel
theorem dX12_goesMany_79 : decode cX12_goesMany 79 = .ok (.if_icmp .ge 28, 3) := by decide +kernel
theorem dX12_goesMany_82 : decode cX12_goesMany 82 = .ok (.aload_n 0, 1) := by decide +kernel
theorem dX12_goesMany_83 : decode cX12_goesMany 83 = .ok (.getfield 50, 3) := by decide +kernel
theorem dX12_goesMany_86 : decode cX12_goesMany 86 = .ok (.iload_n 2, 1) := by decide +kernel
theorem dX12_goesMany_87 : decode cX12_goesMany 87 = .ok (.aload_n 0, 1) := by decide +kernel
theorem dX12_goesMany_88 : decode cX12_goesMany 88 = .ok (.getfield 54, 3) := by decide +kernel
theorem dX12_goesMany_91 : decode cX12_goesMany 91 = .ok (.iload_n 2, 1) := by decide +kernel
theorem dX12_goesMany_92 : decode cX12_goesMany 92 = .ok (.laload, 1) := by decide +kernel
theorem dX12_goesMany_93 : decode cX12_goesMany 93 = .ok (.lastore, 1) := by decide +kernel
theorem dX12_goesMany_94 : decode cX12_goesMany 94 = .ok (.aload_n 0, 1) := by decide +kernel
theorem dX12_goesMany_95 : decode cX12_goesMany 95 = .ok (.getfield 54, 3) := by decide +kernel
theorem dX12_goesMany_98 : decode cX12_goesMany 98 = .ok (.iload_n 2, 1) := by decide +kernel
theorem dX12_goesMany_99 : decode cX12_goesMany 99 = .ok (.lconst 0, 1) := by decide +kernel
theorem dX12_goesMany_100 : decode cX12_goesMany 100 = .ok (.lastore, 1) := by decide +kernel
theorem dX12_goesMany_101 : decode cX12_goesMany 101 = .ok (.iinc 2 1, 3) := by decide +kernel
theorem dX12_goesMany_104 : decode cX12_goesMany 104 = .ok (.goto (-28), 3) := by decide +kernel
theorem dX12_goesMany_107 : decode cX12_goesMany 107 = .ok (.return_, 1) := by decide +kernel
theorem dX12_rows_0 : decode cX12_rows 0 = .ok (.aload_n 0, 1) := by decide +kernel
theorem dX12_rows_1 : decode cX12_rows 1 = .ok (.iconst 0, 1) := by decide +kernel
theorem dX12_rows_2 : decode cX12_rows 2 = .ok (.putfield 1, 3) := by decide +kernel
theorem dX12_rows_5 : decode cX12_rows 5 = .ok (.aload_n 0, 1) := by decide +kernel
theorem dX12_rows_6 : decode cX12_rows 6 = .ok (.iload_n 1, 1) := by decide +kernel
theorem dX12_rows_7 : decode cX12_rows 7 = .ok (.iload_n 2, 1) := by decide +kernel
theorem dX12_rows_8 : decode cX12_rows 8 = .ok (.invokevirtual 375, 3) := by decide +kernel
theorem dX12_rows_11 : decode cX12_rows 11 = .ok (.ifCond .eq 15, 3) := by decide +kernel
theorem dX12_rows_14 : decode cX12_rows 14 = .ok (.iload_n 3, 1) := by decide +kernel
theorem dX12_rows_15 : decode cX12_rows 15 = .ok (.i2l, 1) := by decide +kernel
theorem dX12_rows_16 : decode cX12_rows 16 = .ok (.lconst 0, 1) := by decide +kernel
theorem dX12_rows_17 : decode cX12_rows 17 = .ok (.ldc2_w 396, 3) := by decide +kernel
theorem dX12_rows_20 : decode cX12_rows 20 = .ok (.invokestatic 138, 3) := by decide +kernel
theorem dX12_rows_23 : decode cX12_rows 23 = .ok (.ifCond .ne 7, 3) := by decide +kernel
theorem dX12_rows_26 : decode cX12_rows 26 = .ok (.ldc2_w 398, 3) := by decide +kernel
theorem dX12_rows_29 : decode cX12_rows 29 = .ok (.lreturn, 1) := by decide +kernel
theorem dX12_rows_30 : decode cX12_rows 30 = .ok (.aload_n 0, 1) := by decide +kernel
theorem dX12_rows_31 : decode cX12_rows 31 = .ok (.iload_n 1, 1) := by decide +kernel
theorem dX12_rows_32 : decode cX12_rows 32 = .ok (.iload_n 2, 1) := by decide +kernel
theorem dX12_rows_33 : decode cX12_rows 33 = .ok (.invokevirtual 379, 3) := by decide +kernel
theorem dX12_rows_36 : decode cX12_rows 36 = .ok (.aload_n 0, 1) := by decide +kernel
theorem dX12_rows_37 : decode cX12_rows 37 = .ok (.sipush 511, 3) := by decide +kernel
theorem dX12_rows_40 : decode cX12_rows 40 = .ok (.invokevirtual 358, 3) := by decide +kernel
theorem dX12_rows_43 : decode cX12_rows 43 = .ok (.aload_n 0, 1) := by decide +kernel
theorem dX12_rows_44 : decode cX12_rows 44 = .ok (.invokevirtual 260, 3) := by decide +kernel
theorem dX12_rows_47 : decode cX12_rows 47 = .ok (.istore 4, 2) := by decide +kernel
theorem dX12_rows_49 : decode cX12_rows 49 = .ok (.iconst 0, 1) := by decide +kernel
theorem dX12_rows_50 : decode cX12_rows 50 = .ok (.istore 5, 2) := by decide +kernel
theorem dX12_rows_52 : decode cX12_rows 52 = .ok (.iload 5, 2) := by decide +kernel
theorem dX12_rows_54 : decode cX12_rows 54 = .ok (.ldc 39, 2) := by decide +kernel
theorem dX12_rows_56 : decode cX12_rows 56 = .ok (.if_icmp .ge 36, 3) := by decide +kernel
theorem dX12_rows_59 : decode cX12_rows 59 = .ok (.aload_n 0, 1) := by decide +kernel
theorem dX12_rows_60 : decode cX12_rows 60 = .ok (.getfield 50, 3) := by decide +kernel
theorem dX12_rows_63 : decode cX12_rows 63 = .ok (.iload 5, 2) := by decide +kernel
theorem dX12_rows_65 : decode cX12_rows 65 = .ok (.iload 5, 2) := by decide +kernel
theorem dX12_rows_67 : decode cX12_rows 67 = .ok (.iload 4, 2) := by decide +kernel
theorem dX12_rows_69 : decode cX12_rows 69 = .ok (.if_icmp .ne 7, 3) := by decide +kernel
theorem dX12_rows_72 : decode cX12_rows 72 = .ok (.lconst 1, 1) := by decide +kernel
theorem dX12_rows_73 : decode cX12_rows 73 = .ok (.goto 4, 3) := by decide +kernel
theorem dX12_rows_76 : decode cX12_rows 76 = .ok (.lconst 0, 1) := by decide +kernel
theorem dX12_rows_77 : decode cX12_rows 77 = .ok (.lastore, 1) := by decide +kernel
theorem dX12_rows_78 : decode cX12_rows 78 = .ok (.aload_n 0, 1) := by decide +kernel
theorem dX12_rows_79 : decode cX12_rows 79 = .ok (.getfield 54, 3) := by decide +kernel
theorem dX12_rows_82 : decode cX12_rows 82 = .ok (.iload 5, 2) := by decide +kernel
theorem dX12_rows_84 : decode cX12_rows 84 = .ok (.lconst 0, 1) := by decide +kernel
theorem dX12_rows_85 : decode cX12_rows 85 = .ok (.lastore, 1) := by decide +kernel
theorem dX12_rows_86 : decode cX12_rows 86 = .ok (.iinc 5 1, 3) := by decide +kernel
theorem dX12_rows_89 : decode cX12_rows 89 = .ok (.goto (-37), 3) := by decide +kernel
theorem dX12_rows_92 : decode cX12_rows 92 = .ok (.iconst 0, 1) := by decide +kernel
theorem dX12_rows_93 : decode cX12_rows 93 = .ok (.istore 5, 2) := by decide +kernel
theorem dX12_rows_95 : decode cX12_rows 95 = .ok (.iload 5, 2) := by decide +kernel
theorem dX12_rows_97 : decode cX12_rows 97 = .ok (.iload_n 3, 1) := by decide +kernel
theorem dX12_rows_98 : decode cX12_rows 98 = .ok (.if_icmp .ge 15, 3) := by decide +kernel
theorem dX12_rows_101 : decode cX12_rows 101 = .ok (.aload_n 0, 1) := by decide +kernel
theorem dX12_rows_102 : decode cX12_rows 102 = .ok (.iload 4, 2) := by decide +kernel
theorem dX12_rows_104 : decode cX12_rows 104 = .ok (.invokevirtual 400, 3) := by decide +kernel
theorem dX12_rows_107 : decode cX12_rows 107 = .ok (.iinc 5 1, 3) := by decide +kernel
theorem dX12_rows_110 : decode cX12_rows 110 = .ok (.goto (-15), 3) := by decide +kernel
theorem dX12_rows_113 : decode cX12_rows 113 = .ok (.lconst 0, 1) := by decide +kernel
theorem dX12_rows_114 : decode cX12_rows 114 = .ok (.lstore 5, 2) := by decide +kernel
theorem dX12_rows_116 : decode cX12_rows 116 = .ok (.iload 4, 2) := by decide +kernel
theorem dX12_rows_118 : decode cX12_rows 118 = .ok (.istore 7, 2) := by decide +kernel
theorem dX12_rows_120 : decode cX12_rows 120 = .ok (.iload 7, 2) := by decide +kernel
theorem dX12_rows_122 : decode cX12_rows 122 = .ok (.ldc 39, 2) := by decide +kernel
theorem dX12_rows_124 : decode cX12_rows 124 = .ok (.if_icmp .ge 46, 3) := by decide +kernel
theorem dX12_rows_127 : decode cX12_rows 127 = .ok (.lload 5, 2) := by decide +kernel
theorem dX12_rows_129 : decode cX12_rows 129 = .ok (.aload_n 0, 1) := by decide +kernel
theorem dX12_rows_130 : decode cX12_rows 130 = .ok (.getfield 50, 3) := by decide +kernel
theorem dX12_rows_133 : decode cX12_rows 133 = .ok (.iload 7, 2) := by decide +kernel
theorem dX12_rows_135 : decode cX12_rows 135 = .ok (.laload, 1) := by decide +kernel
theorem dX12_rows_136 : decode cX12_rows 136 = .ok (.lconst 0, 1) := by decide +kernel
theorem dX12_rows_137 : decode cX12_rows 137 = .ok (.lcmp, 1) := by decide +kernel
theorem dX12_rows_138 : decode cX12_rows 138 = .ok (.ifCond .le 22, 3) := by decide +kernel
theorem dX12_rows_141 : decode cX12_rows 141 = .ok (.aload_n 0, 1) := by decide +kernel
theorem dX12_rows_142 : decode cX12_rows 142 = .ok (.iload 7, 2) := by decide +kernel
theorem dX12_rows_144 : decode cX12_rows 144 = .ok (.invokevirtual 362, 3) := by decide +kernel
theorem dX12_rows_147 : decode cX12_rows 147 = .ok (.ifCond .eq 13, 3) := by decide +kernel
theorem dX12_rows_150 : decode cX12_rows 150 = .ok (.aload_n 0, 1) := by decide +kernel
theorem dX12_rows_151 : decode cX12_rows 151 = .ok (.getfield 50, 3) := by decide +kernel
theorem dX12_rows_154 : decode cX12_rows 154 = .ok (.iload 7, 2) := by decide +kernel
theorem dX12_rows_156 : decode cX12_rows 156 = .ok (.laload, 1) := by decide +kernel
theorem dX12_rows_157 : decode cX12_rows 157 = .ok (.goto 4, 3) := by decide +kernel
theorem dX12_rows_160 : decode cX12_rows 160 = .ok (.lconst 0, 1) := by decide +kernel
theorem dX12_rows_161 : decode cX12_rows 161 = .ok (.ladd, 1) := by decide +kernel
theorem dX12_rows_162 : decode cX12_rows 162 = .ok (.lstore 5, 2) := by decide +kernel
theorem dX12_rows_164 : decode cX12_rows 164 = .ok (.iinc 7 1, 3) := by decide +kernel
theorem dX12_rows_167 : decode cX12_rows 167 = .ok (.goto (-47), 3) := by decide +kernel
theorem dX12_rows_170 : decode cX12_rows 170 = .ok (.lload 5, 2) := by decide +kernel
theorem dX12_rows_172 : decode cX12_rows 172 = .ok (.lreturn, 1) := by decide +kernel
theorem dX12_needed_0 : decode cX12_needed 0 = .ok (.aload_n 0, 1) := by decide +kernel
theorem dX12_needed_1 : decode cX12_needed 1 = .ok (.iconst 0, 1) := by decide +kernel
theorem dX12_needed_2 : decode cX12_needed 2 = .ok (.putfield 1, 3) := by decide +kernel
theorem dX12_needed_5 : decode cX12_needed 5 = .ok (.aload_n 0, 1) := by decide +kernel
theorem dX12_needed_6 : decode cX12_needed 6 = .ok (.iload_n 1, 1) := by decide +kernel
theorem dX12_needed_7 : decode cX12_needed 7 = .ok (.iload_n 2, 1) := by decide +kernel
theorem dX12_needed_8 : decode cX12_needed 8 = .ok (.invokevirtual 375, 3) := by decide +kernel
theorem dX12_needed_11 : decode cX12_needed 11 = .ok (.ifCond .ne 6, 3) := by decide +kernel
theorem dX12_needed_14 : decode cX12_needed 14 = .ok (.bipush (-3), 2) := by decide +kernel
theorem dX12_needed_16 : decode cX12_needed 16 = .ok (.ireturn, 1) := by decide +kernel
theorem dX12_needed_17 : decode cX12_needed 17 = .ok (.aload_n 0, 1) := by decide +kernel
theorem dX12_needed_18 : decode cX12_needed 18 = .ok (.iload_n 1, 1) := by decide +kernel
theorem dX12_needed_19 : decode cX12_needed 19 = .ok (.iload_n 2, 1) := by decide +kernel
theorem dX12_needed_20 : decode cX12_needed 20 = .ok (.invokevirtual 379, 3) := by decide +kernel
theorem dX12_needed_23 : decode cX12_needed 23 = .ok (.iconst 0, 1) := by decide +kernel
theorem dX12_needed_24 : decode cX12_needed 24 = .ok (.istore_n 3, 1) := by decide +kernel
theorem dX12_needed_25 : decode cX12_needed 25 = .ok (.aload_n 0, 1) := by decide +kernel
theorem dX12_needed_26 : decode cX12_needed 26 = .ok (.sipush 511, 3) := by decide +kernel
theorem dX12_needed_29 : decode cX12_needed 29 = .ok (.iconst 0, 1) := by decide +kernel
theorem dX12_needed_30 : decode cX12_needed 30 = .ok (.invokevirtual 383, 3) := by decide +kernel
theorem dX12_needed_33 : decode cX12_needed 33 = .ok (.ldc_w 357, 3) := by decide +kernel
theorem dX12_needed_36 : decode cX12_needed 36 = .ok (.if_icmp .ne 5, 3) := by decide +kernel
theorem dX12_needed_39 : decode cX12_needed 39 = .ok (.iload_n 3, 1) := by decide +kernel
theorem dX12_needed_40 : decode cX12_needed 40 = .ok (.ireturn, 1) := by decide +kernel
theorem dX12_needed_41 : decode cX12_needed 41 = .ok (.iconst 0, 1) := by decide +kernel
theorem dX12_needed_42 : decode cX12_needed 42 = .ok (.istore 4, 2) := by decide +kernel
theorem dX12_needed_44 : decode cX12_needed 44 = .ok (.iload 4, 2) := by decide +kernel
theorem dX12_needed_46 : decode cX12_needed 46 = .ok (.aload_n 0, 1) := by decide +kernel
theorem dX12_needed_47 : decode cX12_needed 47 = .ok (.getfield 13, 3) := by decide +kernel
theorem dX12_needed_50 : decode cX12_needed 50 = .ok (.iconst 1, 1) := by decide +kernel
theorem dX12_needed_51 : decode cX12_needed 51 = .ok (.iaload, 1) := by decide +kernel
theorem dX12_needed_52 : decode cX12_needed 52 = .ok (.if_icmp .ge 50, 3) := by decide +kernel
theorem dX12_needed_55 : decode cX12_needed 55 = .ok (.iload_n 3, 1) := by decide +kernel
theorem dX12_needed_56 : decode cX12_needed 56 = .ok (.aload_n 0, 1) := by decide +kernel
theorem dX12_needed_57 : decode cX12_needed 57 = .ok (.sipush 511, 3) := by decide +kernel
theorem dX12_needed_60 : decode cX12_needed 60 = .ok (.iconst 1, 1) := by decide +kernel
theorem dX12_needed_61 : decode cX12_needed 61 = .ok (.iload 4, 2) := by decide +kernel
theorem dX12_needed_63 : decode cX12_needed 63 = .ok (.ishl, 1) := by decide +kernel
theorem dX12_needed_64 : decode cX12_needed 64 = .ok (.iconst (-1), 1) := by decide +kernel
theorem dX12_needed_65 : decode cX12_needed 65 = .ok (.ixor, 1) := by decide +kernel
theorem dX12_needed_66 : decode cX12_needed 66 = .ok (.iand, 1) := by decide +kernel
theorem dX12_needed_67 : decode cX12_needed 67 = .ok (.iconst 1, 1) := by decide +kernel
theorem dX12_needed_68 : decode cX12_needed 68 = .ok (.iconst 4, 1) := by decide +kernel
theorem dX12_needed_69 : decode cX12_needed 69 = .ok (.iload 4, 2) := by decide +kernel
theorem dX12_needed_71 : decode cX12_needed 71 = .ok (.iadd, 1) := by decide +kernel
theorem dX12_needed_72 : decode cX12_needed 72 = .ok (.ishl, 1) := by decide +kernel
theorem dX12_needed_73 : decode cX12_needed 73 = .ok (.iconst (-1), 1) := by decide +kernel
theorem dX12_needed_74 : decode cX12_needed 74 = .ok (.ixor, 1) := by decide +kernel
theorem dX12_needed_75 : decode cX12_needed 75 = .ok (.iand, 1) := by decide +kernel
theorem dX12_needed_76 : decode cX12_needed 76 = .ok (.iconst 0, 1) := by decide +kernel
theorem dX12_needed_77 : decode cX12_needed 77 = .ok (.invokevirtual 383, 3) := by decide +kernel
theorem dX12_needed_80 : decode cX12_needed 80 = .ok (.ldc_w 357, 3) := by decide +kernel
theorem dX12_needed_83 : decode cX12_needed 83 = .ok (.if_icmp .ne 10, 3) := by decide +kernel
theorem dX12_needed_86 : decode cX12_needed 86 = .ok (.iconst 1, 1) := by decide +kernel
theorem dX12_needed_87 : decode cX12_needed 87 = .ok (.iload 4, 2) := by decide +kernel
theorem dX12_needed_89 : decode cX12_needed 89 = .ok (.ishl, 1) := by decide +kernel
theorem dX12_needed_90 : decode cX12_needed 90 = .ok (.goto 4, 3) := by decide +kernel
theorem dX12_needed_93 : decode cX12_needed 93 = .ok (.iconst 0, 1) := by decide +kernel
theorem dX12_needed_94 : decode cX12_needed 94 = .ok (.ior, 1) := by decide +kernel
theorem dX12_needed_95 : decode cX12_needed 95 = .ok (.istore_n 3, 1) := by decide +kernel
theorem dX12_needed_96 : decode cX12_needed 96 = .ok (.iinc 4 1, 3) := by decide +kernel
theorem dX12_needed_99 : decode cX12_needed 99 = .ok (.goto (-55), 3) := by decide +kernel
theorem dX12_needed_102 : decode cX12_needed 102 = .ok (.iload_n 3, 1) := by decide +kernel
theorem dX12_needed_103 : decode cX12_needed 103 = .ok (.ireturn, 1) := by decide +kernel
theorem dX12_tellings_0 : decode cX12_tellings 0 = .ok (.aload_n 0, 1) := by decide +kernel
theorem dX12_tellings_1 : decode cX12_tellings 1 = .ok (.iconst 0, 1) := by decide +kernel
theorem dX12_tellings_2 : decode cX12_tellings 2 = .ok (.putfield 1, 3) := by decide +kernel
theorem dX12_tellings_5 : decode cX12_tellings 5 = .ok (.aload_n 0, 1) := by decide +kernel
theorem dX12_tellings_6 : decode cX12_tellings 6 = .ok (.iload_n 1, 1) := by decide +kernel
theorem dX12_tellings_7 : decode cX12_tellings 7 = .ok (.iload_n 2, 1) := by decide +kernel
theorem dX12_tellings_8 : decode cX12_tellings 8 = .ok (.invokevirtual 375, 3) := by decide +kernel
theorem dX12_tellings_11 : decode cX12_tellings 11 = .ok (.ifCond .ne 6, 3) := by decide +kernel
theorem dX12_tellings_14 : decode cX12_tellings 14 = .ok (.bipush (-3), 2) := by decide +kernel
theorem dX12_tellings_16 : decode cX12_tellings 16 = .ok (.ireturn, 1) := by decide +kernel
theorem dX12_tellings_17 : decode cX12_tellings 17 = .ok (.aload_n 0, 1) := by decide +kernel
theorem dX12_tellings_18 : decode cX12_tellings 18 = .ok (.iload_n 1, 1) := by decide +kernel
theorem dX12_tellings_19 : decode cX12_tellings 19 = .ok (.iload_n 2, 1) := by decide +kernel
theorem dX12_tellings_20 : decode cX12_tellings 20 = .ok (.invokevirtual 379, 3) := by decide +kernel
theorem dX12_tellings_23 : decode cX12_tellings 23 = .ok (.aload_n 0, 1) := by decide +kernel
theorem dX12_tellings_24 : decode cX12_tellings 24 = .ok (.sipush 511, 3) := by decide +kernel
theorem dX12_tellings_27 : decode cX12_tellings 27 = .ok (.iconst 1, 1) := by decide +kernel
theorem dX12_tellings_28 : decode cX12_tellings 28 = .ok (.invokevirtual 383, 3) := by decide +kernel
theorem dX12_tellings_31 : decode cX12_tellings 31 = .ok (.invokestatic 387, 3) := by decide +kernel
theorem dX12_tellings_34 : decode cX12_tellings 34 = .ok (.ireturn, 1) := by decide +kernel
theorem dX12_can_0 : decode cX12_can 0 = .ok (.aload_n 0, 1) := by decide +kernel
theorem dX12_can_1 : decode cX12_can 1 = .ok (.iconst 0, 1) := by decide +kernel
theorem dX12_can_2 : decode cX12_can 2 = .ok (.putfield 1, 3) := by decide +kernel
theorem dX12_can_5 : decode cX12_can 5 = .ok (.iload_n 1, 1) := by decide +kernel
theorem dX12_can_6 : decode cX12_can 6 = .ok (.i2l, 1) := by decide +kernel
theorem dX12_can_7 : decode cX12_can 7 = .ok (.invokestatic 250, 3) := by decide +kernel
theorem dX12_can_10 : decode cX12_can 10 = .ok (.ifCond .ne 6, 3) := by decide +kernel
theorem dX12_can_13 : decode cX12_can 13 = .ok (.bipush (-2), 2) := by decide +kernel
theorem dX12_can_15 : decode cX12_can 15 = .ok (.ireturn, 1) := by decide +kernel
theorem dX12_can_16 : decode cX12_can 16 = .ok (.aload_n 0, 1) := by decide +kernel
theorem dX12_can_17 : decode cX12_can 17 = .ok (.sipush 511, 3) := by decide +kernel
theorem dX12_can_20 : decode cX12_can 20 = .ok (.invokevirtual 358, 3) := by decide +kernel
theorem dX12_can_23 : decode cX12_can 23 = .ok (.iconst 0, 1) := by decide +kernel
theorem dX12_can_24 : decode cX12_can 24 = .ok (.istore_n 2, 1) := by decide +kernel
theorem dX12_can_25 : decode cX12_can 25 = .ok (.iconst 0, 1) := by decide +kernel
theorem dX12_can_26 : decode cX12_can 26 = .ok (.istore_n 3, 1) := by decide +kernel
theorem dX12_can_27 : decode cX12_can 27 = .ok (.iload_n 3, 1) := by decide +kernel
theorem dX12_can_28 : decode cX12_can 28 = .ok (.ldc 39, 2) := by decide +kernel
theorem dX12_can_30 : decode cX12_can 30 = .ok (.if_icmp .ge 31, 3) := by decide +kernel
theorem dX12_can_33 : decode cX12_can 33 = .ok (.iload_n 2, 1) := by decide +kernel
theorem dX12_can_34 : decode cX12_can 34 = .ok (.aload_n 0, 1) := by decide +kernel
theorem dX12_can_35 : decode cX12_can 35 = .ok (.getfield 40, 3) := by decide +kernel
theorem dX12_can_38 : decode cX12_can 38 = .ok (.iload_n 3, 1) := by decide +kernel
theorem dX12_can_39 : decode cX12_can 39 = .ok (.baload, 1) := by decide +kernel
theorem dX12_can_40 : decode cX12_can 40 = .ok (.ifCond .eq 12, 3) := by decide +kernel
theorem dX12_can_43 : decode cX12_can 43 = .ok (.aload_n 0, 1) := by decide +kernel
theorem dX12_can_44 : decode cX12_can 44 = .ok (.iload_n 3, 1) := by decide +kernel
theorem dX12_can_45 : decode cX12_can 45 = .ok (.iload_n 1, 1) := by decide +kernel
theorem dX12_can_46 : decode cX12_can 46 = .ok (.invokevirtual 244, 3) := by decide +kernel
theorem dX12_can_49 : decode cX12_can 49 = .ok (.goto 4, 3) := by decide +kernel
theorem dX12_can_52 : decode cX12_can 52 = .ok (.iconst 0, 1) := by decide +kernel
theorem dX12_can_53 : decode cX12_can 53 = .ok (.ior, 1) := by decide +kernel
theorem dX12_can_54 : decode cX12_can 54 = .ok (.istore_n 2, 1) := by decide +kernel
theorem dX12_can_55 : decode cX12_can 55 = .ok (.iinc 3 1, 3) := by decide +kernel
theorem dX12_can_58 : decode cX12_can 58 = .ok (.goto (-31), 3) := by decide +kernel
theorem dX12_can_61 : decode cX12_can 61 = .ok (.iload_n 2, 1) := by decide +kernel
theorem dX12_can_62 : decode cX12_can 62 = .ok (.ireturn, 1) := by decide +kernel
theorem dX12_stands_0 : decode cX12_stands 0 = .ok (.aload_n 0, 1) := by decide +kernel
theorem dX12_stands_1 : decode cX12_stands 1 = .ok (.iconst 0, 1) := by decide +kernel
theorem dX12_stands_2 : decode cX12_stands 2 = .ok (.putfield 1, 3) := by decide +kernel
theorem dX12_stands_5 : decode cX12_stands 5 = .ok (.aload_n 0, 1) := by decide +kernel
theorem dX12_stands_6 : decode cX12_stands 6 = .ok (.sipush 511, 3) := by decide +kernel
theorem dX12_stands_9 : decode cX12_stands 9 = .ok (.invokevirtual 358, 3) := by decide +kernel
theorem dX12_stands_12 : decode cX12_stands 12 = .ok (.iconst 0, 1) := by decide +kernel
theorem dX12_stands_13 : decode cX12_stands 13 = .ok (.istore_n 1, 1) := by decide +kernel
theorem dX12_stands_14 : decode cX12_stands 14 = .ok (.iconst 0, 1) := by decide +kernel
theorem dX12_stands_15 : decode cX12_stands 15 = .ok (.istore_n 2, 1) := by decide +kernel
theorem dX12_stands_16 : decode cX12_stands 16 = .ok (.iload_n 2, 1) := by decide +kernel
theorem dX12_stands_17 : decode cX12_stands 17 = .ok (.ldc 39, 2) := by decide +kernel
theorem dX12_stands_19 : decode cX12_stands 19 = .ok (.if_icmp .ge 26, 3) := by decide +kernel
theorem dX12_stands_22 : decode cX12_stands 22 = .ok (.iload_n 1, 1) := by decide +kernel
theorem dX12_stands_23 : decode cX12_stands 23 = .ok (.aload_n 0, 1) := by decide +kernel
theorem dX12_stands_24 : decode cX12_stands 24 = .ok (.getfield 40, 3) := by decide +kernel
theorem dX12_stands_27 : decode cX12_stands 27 = .ok (.iload_n 2, 1) := by decide +kernel
theorem dX12_stands_28 : decode cX12_stands 28 = .ok (.baload, 1) := by decide +kernel
theorem dX12_stands_29 : decode cX12_stands 29 = .ok (.ifCond .eq 7, 3) := by decide +kernel
theorem dX12_stands_32 : decode cX12_stands 32 = .ok (.iconst 1, 1) := by decide +kernel
theorem dX12_stands_33 : decode cX12_stands 33 = .ok (.goto 4, 3) := by decide +kernel
theorem dX12_stands_36 : decode cX12_stands 36 = .ok (.iconst 0, 1) := by decide +kernel
theorem dX12_stands_37 : decode cX12_stands 37 = .ok (.iadd, 1) := by decide +kernel
theorem dX12_stands_38 : decode cX12_stands 38 = .ok (.istore_n 1, 1) := by decide +kernel
theorem dX12_stands_39 : decode cX12_stands 39 = .ok (.iinc 2 1, 3) := by decide +kernel
theorem dX12_stands_42 : decode cX12_stands 42 = .ok (.goto (-26), 3) := by decide +kernel
theorem dX12_stands_45 : decode cX12_stands 45 = .ok (.iload_n 1, 1) := by decide +kernel
theorem dX12_stands_46 : decode cX12_stands 46 = .ok (.ireturn, 1) := by decide +kernel
theorem dX12_most_0 : decode cX12_most 0 = .ok (.aload_n 0, 1) := by decide +kernel
theorem dX12_most_1 : decode cX12_most 1 = .ok (.iconst 0, 1) := by decide +kernel
theorem dX12_most_2 : decode cX12_most 2 = .ok (.putfield 1, 3) := by decide +kernel
theorem dX12_most_5 : decode cX12_most 5 = .ok (.aload_n 0, 1) := by decide +kernel
theorem dX12_most_6 : decode cX12_most 6 = .ok (.sipush 511, 3) := by decide +kernel
theorem dX12_most_9 : decode cX12_most 9 = .ok (.invokevirtual 358, 3) := by decide +kernel
theorem dX12_most_12 : decode cX12_most 12 = .ok (.iconst 0, 1) := by decide +kernel
theorem dX12_most_13 : decode cX12_most 13 = .ok (.istore_n 1, 1) := by decide +kernel
theorem dX12_most_14 : decode cX12_most 14 = .ok (.iconst 0, 1) := by decide +kernel
theorem dX12_most_15 : decode cX12_most 15 = .ok (.istore_n 2, 1) := by decide +kernel
theorem dX12_most_16 : decode cX12_most 16 = .ok (.iload_n 2, 1) := by decide +kernel
theorem dX12_most_17 : decode cX12_most 17 = .ok (.ldc 39, 2) := by decide +kernel
theorem dX12_most_19 : decode cX12_most 19 = .ok (.if_icmp .ge 33, 3) := by decide +kernel
theorem dX12_most_22 : decode cX12_most 22 = .ok (.aload_n 0, 1) := by decide +kernel
theorem dX12_most_23 : decode cX12_most 23 = .ok (.getfield 40, 3) := by decide +kernel
theorem dX12_most_26 : decode cX12_most 26 = .ok (.iload_n 2, 1) := by decide +kernel
theorem dX12_most_27 : decode cX12_most 27 = .ok (.baload, 1) := by decide +kernel
theorem dX12_most_28 : decode cX12_most 28 = .ok (.ifCond .eq 18, 3) := by decide +kernel
theorem dX12_most_31 : decode cX12_most 31 = .ok (.aload_n 0, 1) := by decide +kernel
theorem dX12_most_32 : decode cX12_most 32 = .ok (.iload_n 2, 1) := by decide +kernel
theorem dX12_most_33 : decode cX12_most 33 = .ok (.invokevirtual 287, 3) := by decide +kernel
theorem dX12_most_36 : decode cX12_most 36 = .ok (.iload_n 1, 1) := by decide +kernel
theorem dX12_most_37 : decode cX12_most 37 = .ok (.if_icmp .le 9, 3) := by decide +kernel
theorem dX12_most_40 : decode cX12_most 40 = .ok (.aload_n 0, 1) := by decide +kernel
theorem dX12_most_41 : decode cX12_most 41 = .ok (.iload_n 2, 1) := by decide +kernel
theorem dX12_most_42 : decode cX12_most 42 = .ok (.invokevirtual 287, 3) := by decide +kernel
theorem dX12_most_45 : decode cX12_most 45 = .ok (.istore_n 1, 1) := by decide +kernel
theorem dX12_most_46 : decode cX12_most 46 = .ok (.iinc 2 1, 3) := by decide +kernel
theorem dX12_most_49 : decode cX12_most 49 = .ok (.goto (-33), 3) := by decide +kernel
theorem dX12_most_52 : decode cX12_most 52 = .ok (.iload_n 1, 1) := by decide +kernel
theorem dX12_most_53 : decode cX12_most 53 = .ok (.ireturn, 1) := by decide +kernel
theorem dX12_secret_0 : decode cX12_secret 0 = .ok (.aload_n 0, 1) := by decide +kernel
theorem dX12_secret_1 : decode cX12_secret 1 = .ok (.iconst 0, 1) := by decide +kernel
theorem dX12_secret_2 : decode cX12_secret 2 = .ok (.putfield 1, 3) := by decide +kernel
theorem dX12_secret_5 : decode cX12_secret 5 = .ok (.aload_n 0, 1) := by decide +kernel
theorem dX12_secret_6 : decode cX12_secret 6 = .ok (.iload_n 1, 1) := by decide +kernel
theorem dX12_secret_7 : decode cX12_secret 7 = .ok (.i2l, 1) := by decide +kernel
theorem dX12_secret_8 : decode cX12_secret 8 = .ok (.invokevirtual 254, 3) := by decide +kernel
theorem dX12_secret_11 : decode cX12_secret 11 = .ok (.ifCond .ne 6, 3) := by decide +kernel
theorem dX12_secret_14 : decode cX12_secret 14 = .ok (.bipush (-2), 2) := by decide +kernel
theorem dX12_secret_16 : decode cX12_secret 16 = .ok (.ireturn, 1) := by decide +kernel
theorem dX12_secret_17 : decode cX12_secret 17 = .ok (.iconst 0, 1) := by decide +kernel
theorem dX12_secret_18 : decode cX12_secret 18 = .ok (.istore_n 2, 1) := by decide +kernel
theorem dX12_secret_19 : decode cX12_secret 19 = .ok (.iconst 0, 1) := by decide +kernel
theorem dX12_secret_20 : decode cX12_secret 20 = .ok (.istore_n 3, 1) := by decide +kernel
theorem dX12_secret_21 : decode cX12_secret 21 = .ok (.iload_n 3, 1) := by decide +kernel
theorem dX12_secret_22 : decode cX12_secret 22 = .ok (.iconst 2, 1) := by decide +kernel
theorem dX12_secret_23 : decode cX12_secret 23 = .ok (.if_icmp .ge 52, 3) := by decide +kernel
theorem dX12_secret_26 : decode cX12_secret 26 = .ok (.iload_n 2, 1) := by decide +kernel
theorem dX12_secret_27 : decode cX12_secret 27 = .ok (.aload_n 0, 1) := by decide +kernel
theorem dX12_secret_28 : decode cX12_secret 28 = .ok (.aload_n 0, 1) := by decide +kernel
theorem dX12_secret_29 : decode cX12_secret 29 = .ok (.invokevirtual 260, 3) := by decide +kernel
theorem dX12_secret_32 : decode cX12_secret 32 = .ok (.iload_n 3, 1) := by decide +kernel
theorem dX12_secret_33 : decode cX12_secret 33 = .ok (.iload_n 1, 1) := by decide +kernel
theorem dX12_secret_34 : decode cX12_secret 34 = .ok (.invokevirtual 263, 3) := by decide +kernel
theorem dX12_secret_37 : decode cX12_secret 37 = .ok (.ifCond .eq 29, 3) := by decide +kernel
theorem dX12_secret_40 : decode cX12_secret 40 = .ok (.aload_n 0, 1) := by decide +kernel
theorem dX12_secret_41 : decode cX12_secret 41 = .ok (.aload_n 0, 1) := by decide +kernel
theorem dX12_secret_42 : decode cX12_secret 42 = .ok (.invokevirtual 260, 3) := by decide +kernel
theorem dX12_secret_45 : decode cX12_secret 45 = .ok (.iload_n 3, 1) := by decide +kernel
theorem dX12_secret_46 : decode cX12_secret 46 = .ok (.iload_n 1, 1) := by decide +kernel
theorem dX12_secret_47 : decode cX12_secret 47 = .ok (.invokevirtual 266, 3) := by decide +kernel
theorem dX12_secret_50 : decode cX12_secret 50 = .ok (.iconst 1, 1) := by decide +kernel
theorem dX12_secret_51 : decode cX12_secret 51 = .ok (.iload_n 3, 1) := by decide +kernel
theorem dX12_secret_52 : decode cX12_secret 52 = .ok (.isub, 1) := by decide +kernel
theorem dX12_secret_53 : decode cX12_secret 53 = .ok (.iload_n 1, 1) := by decide +kernel
theorem dX12_secret_54 : decode cX12_secret 54 = .ok (.invokestatic 214, 3) := by decide +kernel
theorem dX12_secret_57 : decode cX12_secret 57 = .ok (.ifCond .ne 9, 3) := by decide +kernel
theorem dX12_secret_60 : decode cX12_secret 60 = .ok (.iconst 1, 1) := by decide +kernel
theorem dX12_secret_61 : decode cX12_secret 61 = .ok (.iload_n 3, 1) := by decide +kernel
theorem dX12_secret_62 : decode cX12_secret 62 = .ok (.ishl, 1) := by decide +kernel
theorem dX12_secret_63 : decode cX12_secret 63 = .ok (.goto 4, 3) := by decide +kernel
theorem dX12_secret_66 : decode cX12_secret 66 = .ok (.iconst 0, 1) := by decide +kernel
theorem dX12_secret_67 : decode cX12_secret 67 = .ok (.ior, 1) := by decide +kernel
theorem dX12_secret_68 : decode cX12_secret 68 = .ok (.istore_n 2, 1) := by decide +kernel
theorem dX12_secret_69 : decode cX12_secret 69 = .ok (.iinc 3 1, 3) := by decide +kernel
theorem dX12_secret_72 : decode cX12_secret 72 = .ok (.goto (-51), 3) := by decide +kernel
theorem dX12_secret_75 : decode cX12_secret 75 = .ok (.iload_n 2, 1) := by decide +kernel
theorem dX12_secret_76 : decode cX12_secret 76 = .ok (.ireturn, 1) := by decide +kernel
theorem dX12_overhears_0 : decode cX12_overhears 0 = .ok (.aload_n 0, 1) := by decide +kernel
theorem dX12_overhears_1 : decode cX12_overhears 1 = .ok (.iconst 0, 1) := by decide +kernel
theorem dX12_overhears_2 : decode cX12_overhears 2 = .ok (.putfield 1, 3) := by decide +kernel
theorem dX12_overhears_5 : decode cX12_overhears 5 = .ok (.iload_n 1, 1) := by decide +kernel
theorem dX12_overhears_6 : decode cX12_overhears 6 = .ok (.i2l, 1) := by decide +kernel
theorem dX12_overhears_7 : decode cX12_overhears 7 = .ok (.invokestatic 250, 3) := by decide +kernel
theorem dX12_overhears_10 : decode cX12_overhears 10 = .ok (.ifCond .ne 6, 3) := by decide +kernel
theorem dX12_overhears_13 : decode cX12_overhears 13 = .ok (.bipush (-2), 2) := by decide +kernel
theorem dX12_overhears_15 : decode cX12_overhears 15 = .ok (.ireturn, 1) := by decide +kernel
theorem dX12_overhears_16 : decode cX12_overhears 16 = .ok (.aload_n 0, 1) := by decide +kernel
theorem dX12_overhears_17 : decode cX12_overhears 17 = .ok (.sipush 511, 3) := by decide +kernel
theorem dX12_overhears_20 : decode cX12_overhears 20 = .ok (.invokevirtual 358, 3) := by decide +kernel
theorem dX12_overhears_23 : decode cX12_overhears 23 = .ok (.aload_n 0, 1) := by decide +kernel
theorem dX12_overhears_24 : decode cX12_overhears 24 = .ok (.sipush 256, 3) := by decide +kernel
theorem dX12_overhears_27 : decode cX12_overhears 27 = .ok (.iload_n 1, 1) := by decide +kernel
theorem dX12_overhears_28 : decode cX12_overhears 28 = .ok (.ifCond .ne 9, 3) := by decide +kernel
theorem dX12_overhears_31 : decode cX12_overhears 31 = .ok (.sipush 240, 3) := by decide +kernel
theorem dX12_overhears_34 : decode cX12_overhears 34 = .ok (.goto 5, 3) := by decide +kernel
theorem dX12_overhears_37 : decode cX12_overhears 37 = .ok (.bipush 15, 2) := by decide +kernel
theorem dX12_overhears_39 : decode cX12_overhears 39 = .ok (.ior, 1) := by decide +kernel
theorem dX12_overhears_40 : decode cX12_overhears 40 = .ok (.invokevirtual 358, 3) := by decide +kernel
theorem dX12_overhears_43 : decode cX12_overhears 43 = .ok (.iconst 0, 1) := by decide +kernel
theorem dX12_overhears_44 : decode cX12_overhears 44 = .ok (.istore_n 2, 1) := by decide +kernel
theorem dX12_overhears_45 : decode cX12_overhears 45 = .ok (.iconst 0, 1) := by decide +kernel
theorem dX12_overhears_46 : decode cX12_overhears 46 = .ok (.istore_n 3, 1) := by decide +kernel
theorem dX12_overhears_47 : decode cX12_overhears 47 = .ok (.iload_n 3, 1) := by decide +kernel
theorem dX12_overhears_48 : decode cX12_overhears 48 = .ok (.ldc 39, 2) := by decide +kernel
theorem dX12_overhears_50 : decode cX12_overhears 50 = .ok (.if_icmp .ge 54, 3) := by decide +kernel
theorem dX12_overhears_53 : decode cX12_overhears 53 = .ok (.iconst 0, 1) := by decide +kernel
theorem dX12_overhears_54 : decode cX12_overhears 54 = .ok (.istore 4, 2) := by decide +kernel
theorem dX12_overhears_56 : decode cX12_overhears 56 = .ok (.iload 4, 2) := by decide +kernel
theorem dX12_overhears_58 : decode cX12_overhears 58 = .ok (.iconst 4, 1) := by decide +kernel
theorem dX12_overhears_59 : decode cX12_overhears 59 = .ok (.if_icmp .ge 39, 3) := by decide +kernel
theorem dX12_overhears_62 : decode cX12_overhears 62 = .ok (.iload_n 2, 1) := by decide +kernel
theorem dX12_overhears_63 : decode cX12_overhears 63 = .ok (.aload_n 0, 1) := by decide +kernel
theorem dX12_overhears_64 : decode cX12_overhears 64 = .ok (.getfield 40, 3) := by decide +kernel
theorem dX12_overhears_67 : decode cX12_overhears 67 = .ok (.iload_n 3, 1) := by decide +kernel
theorem dX12_overhears_68 : decode cX12_overhears 68 = .ok (.baload, 1) := by decide +kernel
theorem dX12_overhears_69 : decode cX12_overhears 69 = .ok (.ifCond .eq 20, 3) := by decide +kernel
theorem dX12_overhears_72 : decode cX12_overhears 72 = .ok (.iload_n 3, 1) := by decide +kernel
theorem dX12_overhears_73 : decode cX12_overhears 73 = .ok (.iload_n 1, 1) := by decide +kernel
theorem dX12_overhears_74 : decode cX12_overhears 74 = .ok (.iload 4, 2) := by decide +kernel
theorem dX12_overhears_76 : decode cX12_overhears 76 = .ok (.invokestatic 214, 3) := by decide +kernel
theorem dX12_overhears_79 : decode cX12_overhears 79 = .ok (.ifCond .le 10, 3) := by decide +kernel
theorem dX12_overhears_82 : decode cX12_overhears 82 = .ok (.iconst 1, 1) := by decide +kernel
theorem dX12_overhears_83 : decode cX12_overhears 83 = .ok (.iload 4, 2) := by decide +kernel
theorem dX12_overhears_85 : decode cX12_overhears 85 = .ok (.ishl, 1) := by decide +kernel
theorem dX12_overhears_86 : decode cX12_overhears 86 = .ok (.goto 4, 3) := by decide +kernel
theorem dX12_overhears_89 : decode cX12_overhears 89 = .ok (.iconst 0, 1) := by decide +kernel
theorem dX12_overhears_90 : decode cX12_overhears 90 = .ok (.ior, 1) := by decide +kernel
theorem dX12_overhears_91 : decode cX12_overhears 91 = .ok (.istore_n 2, 1) := by decide +kernel
theorem dX12_overhears_92 : decode cX12_overhears 92 = .ok (.iinc 4 1, 3) := by decide +kernel
theorem dX12_overhears_95 : decode cX12_overhears 95 = .ok (.goto (-39), 3) := by decide +kernel
theorem dX12_overhears_98 : decode cX12_overhears 98 = .ok (.iinc 3 1, 3) := by decide +kernel
theorem dX12_overhears_101 : decode cX12_overhears 101 = .ok (.goto (-54), 3) := by decide +kernel
theorem dX12_overhears_104 : decode cX12_overhears 104 = .ok (.iconst 0, 1) := by decide +kernel
theorem dX12_overhears_105 : decode cX12_overhears 105 = .ok (.istore_n 3, 1) := by decide +kernel
theorem dX12_overhears_106 : decode cX12_overhears 106 = .ok (.iload_n 3, 1) := by decide +kernel
theorem dX12_overhears_107 : decode cX12_overhears 107 = .ok (.iconst 4, 1) := by decide +kernel
theorem dX12_overhears_108 : decode cX12_overhears 108 = .ok (.if_icmp .ge 29, 3) := by decide +kernel
theorem dX12_overhears_111 : decode cX12_overhears 111 = .ok (.aload_n 0, 1) := by decide +kernel
theorem dX12_overhears_112 : decode cX12_overhears 112 = .ok (.invokevirtual 260, 3) := by decide +kernel
theorem dX12_overhears_115 : decode cX12_overhears 115 = .ok (.iload_n 1, 1) := by decide +kernel
theorem dX12_overhears_116 : decode cX12_overhears 116 = .ok (.iload_n 3, 1) := by decide +kernel
theorem dX12_overhears_117 : decode cX12_overhears 117 = .ok (.invokestatic 214, 3) := by decide +kernel
theorem dX12_overhears_120 : decode cX12_overhears 120 = .ok (.ifCond .le 11, 3) := by decide +kernel
theorem dX12_overhears_123 : decode cX12_overhears 123 = .ok (.iload_n 2, 1) := by decide +kernel
theorem dX12_overhears_124 : decode cX12_overhears 124 = .ok (.iconst 1, 1) := by decide +kernel
theorem dX12_overhears_125 : decode cX12_overhears 125 = .ok (.iload_n 3, 1) := by decide +kernel
theorem dX12_overhears_126 : decode cX12_overhears 126 = .ok (.ishl, 1) := by decide +kernel
theorem dX12_overhears_127 : decode cX12_overhears 127 = .ok (.iconst (-1), 1) := by decide +kernel
theorem dX12_overhears_128 : decode cX12_overhears 128 = .ok (.ixor, 1) := by decide +kernel
theorem dX12_overhears_129 : decode cX12_overhears 129 = .ok (.iand, 1) := by decide +kernel
theorem dX12_overhears_130 : decode cX12_overhears 130 = .ok (.istore_n 2, 1) := by decide +kernel
theorem dX12_overhears_131 : decode cX12_overhears 131 = .ok (.iinc 3 1, 3) := by decide +kernel
theorem dX12_overhears_134 : decode cX12_overhears 134 = .ok (.goto (-28), 3) := by decide +kernel
theorem dX12_overhears_137 : decode cX12_overhears 137 = .ok (.iload_n 2, 1) := by decide +kernel
theorem dX12_overhears_138 : decode cX12_overhears 138 = .ok (.ireturn, 1) := by decide +kernel
theorem dX12_noTold_0 : decode cX12_noTold 0 = .ok (.aload_n 0, 1) := by decide +kernel
theorem dX12_noTold_1 : decode cX12_noTold 1 = .ok (.iload_n 1, 1) := by decide +kernel
theorem dX12_noTold_2 : decode cX12_noTold 2 = .ok (.invokevirtual 321, 3) := by decide +kernel
theorem dX12_noTold_5 : decode cX12_noTold 5 = .ok (.istore 4, 2) := by decide +kernel
theorem dX12_noTold_7 : decode cX12_noTold 7 = .ok (.iload 4, 2) := by decide +kernel
theorem dX12_noTold_9 : decode cX12_noTold 9 = .ok (.ifCond .eq 6, 3) := by decide +kernel
theorem dX12_noTold_12 : decode cX12_noTold 12 = .ok (.iload 4, 2) := by decide +kernel
theorem dX12_noTold_14 : decode cX12_noTold 14 = .ok (.ireturn, 1) := by decide +kernel
theorem dX12_noTold_15 : decode cX12_noTold 15 = .ok (.aload_n 0, 1) := by decide +kernel
theorem dX12_noTold_16 : decode cX12_noTold 16 = .ok (.getfield 66, 3) := by decide +kernel
theorem dX12_noTold_19 : decode cX12_noTold 19 = .ok (.iload_n 1, 1) := by decide +kernel
theorem dX12_noTold_20 : decode cX12_noTold 20 = .ok (.iaload, 1) := by decide +kernel
theorem dX12_noTold_21 : decode cX12_noTold 21 = .ok (.i2l, 1) := by decide +kernel
theorem dX12_noTold_22 : decode cX12_noTold 22 = .ok (.lconst 1, 1) := by decide +kernel
theorem dX12_noTold_23 : decode cX12_noTold 23 = .ok (.ldc2_w 295, 3) := by decide +kernel
theorem dX12_noTold_26 : decode cX12_noTold 26 = .ok (.invokestatic 138, 3) := by decide +kernel
theorem dX12_noTold_29 : decode cX12_noTold 29 = .ok (.ifCond .ne 6, 3) := by decide +kernel
theorem dX12_noTold_32 : decode cX12_noTold 32 = .ok (.bipush (-4), 2) := by decide +kernel
theorem dX12_noTold_34 : decode cX12_noTold 34 = .ok (.ireturn, 1) := by decide +kernel
theorem dX12_noTold_35 : decode cX12_noTold 35 = .ok (.iconst 0, 1) := by decide +kernel
theorem dX12_noTold_36 : decode cX12_noTold 36 = .ok (.istore 5, 2) := by decide +kernel
theorem dX12_noTold_38 : decode cX12_noTold 38 = .ok (.iload 5, 2) := by decide +kernel
theorem dX12_noTold_40 : decode cX12_noTold 40 = .ok (.aload_n 0, 1) := by decide +kernel
theorem dX12_noTold_41 : decode cX12_noTold 41 = .ok (.getfield 66, 3) := by decide +kernel
theorem dX12_noTold_44 : decode cX12_noTold 44 = .ok (.iload_n 1, 1) := by decide +kernel
theorem dX12_noTold_45 : decode cX12_noTold 45 = .ok (.iaload, 1) := by decide +kernel
theorem dX12_noTold_46 : decode cX12_noTold 46 = .ok (.if_icmp .ge 31, 3) := by decide +kernel
theorem dX12_noTold_49 : decode cX12_noTold 49 = .ok (.aload_n 0, 1) := by decide +kernel
theorem dX12_noTold_50 : decode cX12_noTold 50 = .ok (.aload_n 0, 1) := by decide +kernel
theorem dX12_noTold_51 : decode cX12_noTold 51 = .ok (.getfield 69, 3) := by decide +kernel
theorem dX12_noTold_54 : decode cX12_noTold 54 = .ok (.bipush 40, 2) := by decide +kernel
theorem dX12_noTold_56 : decode cX12_noTold 56 = .ok (.iload_n 1, 1) := by decide +kernel
theorem dX12_noTold_57 : decode cX12_noTold 57 = .ok (.imul, 1) := by decide +kernel
theorem dX12_noTold_58 : decode cX12_noTold 58 = .ok (.iload 5, 2) := by decide +kernel
theorem dX12_noTold_60 : decode cX12_noTold 60 = .ok (.iadd, 1) := by decide +kernel
theorem dX12_noTold_61 : decode cX12_noTold 61 = .ok (.laload, 1) := by decide +kernel
theorem dX12_noTold_62 : decode cX12_noTold 62 = .ok (.invokevirtual 254, 3) := by decide +kernel
theorem dX12_noTold_65 : decode cX12_noTold 65 = .ok (.ifCond .ne 6, 3) := by decide +kernel
theorem dX12_noTold_68 : decode cX12_noTold 68 = .ok (.bipush (-3), 2) := by decide +kernel
theorem dX12_noTold_70 : decode cX12_noTold 70 = .ok (.ireturn, 1) := by decide +kernel
theorem dX12_noTold_71 : decode cX12_noTold 71 = .ok (.iinc 5 1, 3) := by decide +kernel
theorem dX12_noTold_74 : decode cX12_noTold 74 = .ok (.goto (-36), 3) := by decide +kernel
theorem dX12_noTold_77 : decode cX12_noTold 77 = .ok (.aload_n 0, 1) := by decide +kernel
theorem dX12_noTold_78 : decode cX12_noTold 78 = .ok (.iload_n 2, 1) := by decide +kernel
theorem dX12_noTold_79 : decode cX12_noTold 79 = .ok (.iload_n 3, 1) := by decide +kernel
theorem dX12_noTold_80 : decode cX12_noTold 80 = .ok (.invokevirtual 375, 3) := by decide +kernel
theorem dX12_noTold_83 : decode cX12_noTold 83 = .ok (.ifCond .eq 7, 3) := by decide +kernel
theorem dX12_noTold_86 : decode cX12_noTold 86 = .ok (.iconst 0, 1) := by decide +kernel
theorem dX12_noTold_87 : decode cX12_noTold 87 = .ok (.goto 5, 3) := by decide +kernel
theorem dX12_noTold_90 : decode cX12_noTold 90 = .ok (.bipush (-3), 2) := by decide +kernel
theorem dX12_noTold_92 : decode cX12_noTold 92 = .ok (.ireturn, 1) := by decide +kernel
theorem dX12_twinAt_0 : decode cX12_twinAt 0 = .ok (.iload_n 0, 1) := by decide +kernel
theorem dX12_twinAt_1 : decode cX12_twinAt 1 = .ok (.iload_n 1, 1) := by decide +kernel
theorem dX12_twinAt_2 : decode cX12_twinAt 2 = .ok (.iconst 1, 1) := by decide +kernel
theorem dX12_twinAt_3 : decode cX12_twinAt 3 = .ok (.isub, 1) := by decide +kernel
theorem dX12_twinAt_4 : decode cX12_twinAt 4 = .ok (.iload_n 2, 1) := by decide +kernel
theorem dX12_twinAt_5 : decode cX12_twinAt 5 = .ok (.isub, 1) := by decide +kernel
theorem dX12_twinAt_6 : decode cX12_twinAt 6 = .ok (.ishr, 1) := by decide +kernel
theorem dX12_twinAt_7 : decode cX12_twinAt 7 = .ok (.iconst 1, 1) := by decide +kernel
theorem dX12_twinAt_8 : decode cX12_twinAt 8 = .ok (.iand, 1) := by decide +kernel
theorem dX12_twinAt_9 : decode cX12_twinAt 9 = .ok (.ireturn, 1) := by decide +kernel
theorem dX12_isTold_0 : decode cX12_isTold 0 = .ok (.aload_n 0, 1) := by decide +kernel
theorem dX12_isTold_1 : decode cX12_isTold 1 = .ok (.invokevirtual 260, 3) := by decide +kernel
theorem dX12_isTold_4 : decode cX12_isTold 4 = .ok (.istore 5, 2) := by decide +kernel
theorem dX12_isTold_6 : decode cX12_isTold 6 = .ok (.iconst 0, 1) := by decide +kernel
theorem dX12_isTold_7 : decode cX12_isTold 7 = .ok (.istore 6, 2) := by decide +kernel
theorem dX12_isTold_9 : decode cX12_isTold 9 = .ok (.iload 6, 2) := by decide +kernel
theorem dX12_isTold_11 : decode cX12_isTold 11 = .ok (.aload_n 0, 1) := by decide +kernel
theorem dX12_isTold_12 : decode cX12_isTold 12 = .ok (.getfield 66, 3) := by decide +kernel
theorem dX12_isTold_15 : decode cX12_isTold 15 = .ok (.iload_n 1, 1) := by decide +kernel
theorem dX12_isTold_16 : decode cX12_isTold 16 = .ok (.iaload, 1) := by decide +kernel
theorem dX12_isTold_17 : decode cX12_isTold 17 = .ok (.if_icmp .ge 68, 3) := by decide +kernel
theorem dX12_isTold_20 : decode cX12_isTold 20 = .ok (.aload_n 0, 1) := by decide +kernel
theorem dX12_isTold_21 : decode cX12_isTold 21 = .ok (.getfield 69, 3) := by decide +kernel
theorem dX12_isTold_24 : decode cX12_isTold 24 = .ok (.bipush 40, 2) := by decide +kernel
theorem dX12_isTold_26 : decode cX12_isTold 26 = .ok (.iload_n 1, 1) := by decide +kernel
theorem dX12_isTold_27 : decode cX12_isTold 27 = .ok (.imul, 1) := by decide +kernel
theorem dX12_isTold_28 : decode cX12_isTold 28 = .ok (.iload 6, 2) := by decide +kernel
theorem dX12_isTold_30 : decode cX12_isTold 30 = .ok (.iadd, 1) := by decide +kernel
theorem dX12_isTold_31 : decode cX12_isTold 31 = .ok (.laload, 1) := by decide +kernel
theorem dX12_isTold_32 : decode cX12_isTold 32 = .ok (.l2i, 1) := by decide +kernel
theorem dX12_isTold_33 : decode cX12_isTold 33 = .ok (.istore 7, 2) := by decide +kernel
theorem dX12_isTold_35 : decode cX12_isTold 35 = .ok (.iload_n 2, 1) := by decide +kernel
theorem dX12_isTold_36 : decode cX12_isTold 36 = .ok (.aload_n 0, 1) := by decide +kernel
theorem dX12_isTold_37 : decode cX12_isTold 37 = .ok (.getfield 66, 3) := by decide +kernel
theorem dX12_isTold_40 : decode cX12_isTold 40 = .ok (.iload_n 1, 1) := by decide +kernel
theorem dX12_isTold_41 : decode cX12_isTold 41 = .ok (.iaload, 1) := by decide +kernel
theorem dX12_isTold_42 : decode cX12_isTold 42 = .ok (.iload 6, 2) := by decide +kernel
theorem dX12_isTold_44 : decode cX12_isTold 44 = .ok (.invokestatic 403, 3) := by decide +kernel
theorem dX12_isTold_47 : decode cX12_isTold 47 = .ok (.istore 8, 2) := by decide +kernel
theorem dX12_isTold_49 : decode cX12_isTold 49 = .ok (.aload_n 0, 1) := by decide +kernel
theorem dX12_isTold_50 : decode cX12_isTold 50 = .ok (.iload 5, 2) := by decide +kernel
theorem dX12_isTold_52 : decode cX12_isTold 52 = .ok (.iload 8, 2) := by decide +kernel
theorem dX12_isTold_54 : decode cX12_isTold 54 = .ok (.iload 7, 2) := by decide +kernel
theorem dX12_isTold_56 : decode cX12_isTold 56 = .ok (.invokevirtual 263, 3) := by decide +kernel
theorem dX12_isTold_59 : decode cX12_isTold 59 = .ok (.ifCond .ne 5, 3) := by decide +kernel
theorem dX12_isTold_62 : decode cX12_isTold 62 = .ok (.iconst 0, 1) := by decide +kernel
theorem dX12_isTold_63 : decode cX12_isTold 63 = .ok (.ireturn, 1) := by decide +kernel
theorem dX12_isTold_64 : decode cX12_isTold 64 = .ok (.aload_n 0, 1) := by decide +kernel
theorem dX12_isTold_65 : decode cX12_isTold 65 = .ok (.iload 5, 2) := by decide +kernel
theorem dX12_isTold_67 : decode cX12_isTold 67 = .ok (.iload 8, 2) := by decide +kernel
theorem dX12_isTold_69 : decode cX12_isTold 69 = .ok (.iload 7, 2) := by decide +kernel
theorem dX12_isTold_71 : decode cX12_isTold 71 = .ok (.invokevirtual 266, 3) := by decide +kernel
theorem dX12_isTold_74 : decode cX12_isTold 74 = .ok (.invokestatic 284, 3) := by decide +kernel
theorem dX12_isTold_77 : decode cX12_isTold 77 = .ok (.istore 5, 2) := by decide +kernel
theorem dX12_isTold_79 : decode cX12_isTold 79 = .ok (.iinc 6 1, 3) := by decide +kernel
theorem dX12_isTold_82 : decode cX12_isTold 82 = .ok (.goto (-73), 3) := by decide +kernel
theorem dX12_isTold_85 : decode cX12_isTold 85 = .ok (.aload_n 0, 1) := by decide +kernel
theorem dX12_isTold_86 : decode cX12_isTold 86 = .ok (.iload 5, 2) := by decide +kernel
theorem dX12_isTold_88 : decode cX12_isTold 88 = .ok (.iconst 0, 1) := by decide +kernel
theorem dX12_isTold_89 : decode cX12_isTold 89 = .ok (.invokevirtual 244, 3) := by decide +kernel
theorem dX12_isTold_92 : decode cX12_isTold 92 = .ok (.iload_n 3, 1) := by decide +kernel
theorem dX12_isTold_93 : decode cX12_isTold 93 = .ok (.if_icmp .ne 19, 3) := by decide +kernel
theorem dX12_isTold_96 : decode cX12_isTold 96 = .ok (.aload_n 0, 1) := by decide +kernel
theorem dX12_isTold_97 : decode cX12_isTold 97 = .ok (.iload 5, 2) := by decide +kernel
theorem dX12_isTold_99 : decode cX12_isTold 99 = .ok (.iconst 1, 1) := by decide +kernel
theorem dX12_isTold_100 : decode cX12_isTold 100 = .ok (.invokevirtual 244, 3) := by decide +kernel
theorem dX12_isTold_103 : decode cX12_isTold 103 = .ok (.iload 4, 2) := by decide +kernel
theorem dX12_isTold_105 : decode cX12_isTold 105 = .ok (.if_icmp .ne 7, 3) := by decide +kernel
theorem dX12_isTold_108 : decode cX12_isTold 108 = .ok (.iconst 1, 1) := by decide +kernel
theorem dX12_isTold_109 : decode cX12_isTold 109 = .ok (.goto 4, 3) := by decide +kernel
theorem dX12_isTold_112 : decode cX12_isTold 112 = .ok (.iconst 0, 1) := by decide +kernel
theorem dX12_isTold_113 : decode cX12_isTold 113 = .ok (.ireturn, 1) := by decide +kernel
theorem dX12_told_0 : decode cX12_told 0 = .ok (.aload_n 0, 1) := by decide +kernel
theorem dX12_told_1 : decode cX12_told 1 = .ok (.iconst 0, 1) := by decide +kernel
theorem dX12_told_2 : decode cX12_told 2 = .ok (.putfield 1, 3) := by decide +kernel
theorem dX12_told_5 : decode cX12_told 5 = .ok (.aload_n 0, 1) := by decide +kernel
theorem dX12_told_6 : decode cX12_told 6 = .ok (.iload_n 1, 1) := by decide +kernel
theorem dX12_told_7 : decode cX12_told 7 = .ok (.iload_n 2, 1) := by decide +kernel
theorem dX12_told_8 : decode cX12_told 8 = .ok (.iload_n 3, 1) := by decide +kernel
theorem dX12_told_9 : decode cX12_told 9 = .ok (.invokevirtual 406, 3) := by decide +kernel
theorem dX12_told_12 : decode cX12_told 12 = .ok (.istore 4, 2) := by decide +kernel
theorem dX12_told_14 : decode cX12_told 14 = .ok (.iload 4, 2) := by decide +kernel
theorem dX12_told_16 : decode cX12_told 16 = .ok (.ifCond .eq 6, 3) := by decide +kernel
theorem dX12_told_19 : decode cX12_told 19 = .ok (.iload 4, 2) := by decide +kernel
theorem dX12_told_21 : decode cX12_told 21 = .ok (.ireturn, 1) := by decide +kernel
theorem dX12_told_22 : decode cX12_told 22 = .ok (.iconst 0, 1) := by decide +kernel
theorem dX12_told_23 : decode cX12_told 23 = .ok (.istore 5, 2) := by decide +kernel
theorem dX12_told_25 : decode cX12_told 25 = .ok (.iconst 0, 1) := by decide +kernel
theorem dX12_told_26 : decode cX12_told 26 = .ok (.istore 6, 2) := by decide +kernel
theorem dX12_told_28 : decode cX12_told 28 = .ok (.iload 6, 2) := by decide +kernel
theorem dX12_told_30 : decode cX12_told 30 = .ok (.iconst 1, 1) := by decide +kernel
theorem dX12_told_31 : decode cX12_told 31 = .ok (.aload_n 0, 1) := by decide +kernel
theorem dX12_told_32 : decode cX12_told 32 = .ok (.getfield 66, 3) := by decide +kernel
theorem dX12_told_35 : decode cX12_told 35 = .ok (.iload_n 1, 1) := by decide +kernel
theorem dX12_told_36 : decode cX12_told 36 = .ok (.iaload, 1) := by decide +kernel
theorem dX12_told_37 : decode cX12_told 37 = .ok (.ishl, 1) := by decide +kernel
theorem dX12_told_38 : decode cX12_told 38 = .ok (.if_icmp .ge 31, 3) := by decide +kernel
theorem dX12_told_41 : decode cX12_told 41 = .ok (.iload 5, 2) := by decide +kernel
theorem dX12_told_43 : decode cX12_told 43 = .ok (.aload_n 0, 1) := by decide +kernel
theorem dX12_told_44 : decode cX12_told 44 = .ok (.iload_n 1, 1) := by decide +kernel
theorem dX12_told_45 : decode cX12_told 45 = .ok (.iload 6, 2) := by decide +kernel
theorem dX12_told_47 : decode cX12_told 47 = .ok (.iload_n 2, 1) := by decide +kernel
theorem dX12_told_48 : decode cX12_told 48 = .ok (.iload_n 3, 1) := by decide +kernel
theorem dX12_told_49 : decode cX12_told 49 = .ok (.invokevirtual 409, 3) := by decide +kernel
theorem dX12_told_52 : decode cX12_told 52 = .ok (.ifCond .eq 7, 3) := by decide +kernel
theorem dX12_told_55 : decode cX12_told 55 = .ok (.iconst 1, 1) := by decide +kernel
theorem dX12_told_56 : decode cX12_told 56 = .ok (.goto 4, 3) := by decide +kernel
theorem dX12_told_59 : decode cX12_told 59 = .ok (.iconst 0, 1) := by decide +kernel
theorem dX12_told_60 : decode cX12_told 60 = .ok (.iadd, 1) := by decide +kernel
theorem dX12_told_61 : decode cX12_told 61 = .ok (.istore 5, 2) := by decide +kernel
theorem dX12_told_63 : decode cX12_told 63 = .ok (.iinc 6 1, 3) := by decide +kernel
theorem dX12_told_66 : decode cX12_told 66 = .ok (.goto (-38), 3) := by decide +kernel
theorem dX12_told_69 : decode cX12_told 69 = .ok (.iload 5, 2) := by decide +kernel
theorem dX12_told_71 : decode cX12_told 71 = .ok (.ireturn, 1) := by decide +kernel
theorem dX12_whom_0 : decode cX12_whom 0 = .ok (.aload_n 0, 1) := by decide +kernel
theorem dX12_whom_1 : decode cX12_whom 1 = .ok (.iconst 0, 1) := by decide +kernel
theorem dX12_whom_2 : decode cX12_whom 2 = .ok (.putfield 1, 3) := by decide +kernel
theorem dX12_whom_5 : decode cX12_whom 5 = .ok (.aload_n 0, 1) := by decide +kernel
theorem dX12_whom_6 : decode cX12_whom 6 = .ok (.iload_n 1, 1) := by decide +kernel
theorem dX12_whom_7 : decode cX12_whom 7 = .ok (.iload_n 2, 1) := by decide +kernel
theorem dX12_whom_8 : decode cX12_whom 8 = .ok (.iload_n 3, 1) := by decide +kernel
theorem dX12_whom_9 : decode cX12_whom 9 = .ok (.invokevirtual 406, 3) := by decide +kernel
theorem dX12_whom_12 : decode cX12_whom 12 = .ok (.istore 5, 2) := by decide +kernel
theorem dX12_whom_14 : decode cX12_whom 14 = .ok (.iload 5, 2) := by decide +kernel
theorem dX12_whom_16 : decode cX12_whom 16 = .ok (.ifCond .eq 6, 3) := by decide +kernel
theorem dX12_whom_19 : decode cX12_whom 19 = .ok (.iload 5, 2) := by decide +kernel
theorem dX12_whom_21 : decode cX12_whom 21 = .ok (.ireturn, 1) := by decide +kernel
theorem dX12_whom_22 : decode cX12_whom 22 = .ok (.iload 4, 2) := by decide +kernel
theorem dX12_whom_24 : decode cX12_whom 24 = .ok (.ifCond .ge 6, 3) := by decide +kernel
theorem dX12_whom_27 : decode cX12_whom 27 = .ok (.bipush (-3), 2) := by decide +kernel
theorem dX12_whom_29 : decode cX12_whom 29 = .ok (.ireturn, 1) := by decide +kernel
theorem dX12_whom_30 : decode cX12_whom 30 = .ok (.iconst 0, 1) := by decide +kernel
theorem dX12_whom_31 : decode cX12_whom 31 = .ok (.istore 6, 2) := by decide +kernel
theorem dX12_whom_33 : decode cX12_whom 33 = .ok (.iload 6, 2) := by decide +kernel
theorem dX12_whom_35 : decode cX12_whom 35 = .ok (.iconst 1, 1) := by decide +kernel
theorem dX12_whom_36 : decode cX12_whom 36 = .ok (.aload_n 0, 1) := by decide +kernel
theorem dX12_whom_37 : decode cX12_whom 37 = .ok (.getfield 66, 3) := by decide +kernel
theorem dX12_whom_40 : decode cX12_whom 40 = .ok (.iload_n 1, 1) := by decide +kernel
theorem dX12_whom_41 : decode cX12_whom 41 = .ok (.iaload, 1) := by decide +kernel
theorem dX12_whom_42 : decode cX12_whom 42 = .ok (.ishl, 1) := by decide +kernel
theorem dX12_whom_43 : decode cX12_whom 43 = .ok (.if_icmp .ge 46, 3) := by decide +kernel
theorem dX12_whom_46 : decode cX12_whom 46 = .ok (.iload 4, 2) := by decide +kernel
theorem dX12_whom_48 : decode cX12_whom 48 = .ok (.aload_n 0, 1) := by decide +kernel
theorem dX12_whom_49 : decode cX12_whom 49 = .ok (.getfield 66, 3) := by decide +kernel
theorem dX12_whom_52 : decode cX12_whom 52 = .ok (.iload_n 1, 1) := by decide +kernel
theorem dX12_whom_53 : decode cX12_whom 53 = .ok (.iaload, 1) := by decide +kernel
theorem dX12_whom_54 : decode cX12_whom 54 = .ok (.if_icmp .ge 35, 3) := by decide +kernel
theorem dX12_whom_57 : decode cX12_whom 57 = .ok (.aload_n 0, 1) := by decide +kernel
theorem dX12_whom_58 : decode cX12_whom 58 = .ok (.iload_n 1, 1) := by decide +kernel
theorem dX12_whom_59 : decode cX12_whom 59 = .ok (.iload 6, 2) := by decide +kernel
theorem dX12_whom_61 : decode cX12_whom 61 = .ok (.iload_n 2, 1) := by decide +kernel
theorem dX12_whom_62 : decode cX12_whom 62 = .ok (.iload_n 3, 1) := by decide +kernel
theorem dX12_whom_63 : decode cX12_whom 63 = .ok (.invokevirtual 409, 3) := by decide +kernel
theorem dX12_whom_66 : decode cX12_whom 66 = .ok (.ifCond .eq 17, 3) := by decide +kernel
theorem dX12_whom_69 : decode cX12_whom 69 = .ok (.iload 6, 2) := by decide +kernel
theorem dX12_whom_71 : decode cX12_whom 71 = .ok (.aload_n 0, 1) := by decide +kernel
theorem dX12_whom_72 : decode cX12_whom 72 = .ok (.getfield 66, 3) := by decide +kernel
theorem dX12_whom_75 : decode cX12_whom 75 = .ok (.iload_n 1, 1) := by decide +kernel
theorem dX12_whom_76 : decode cX12_whom 76 = .ok (.iaload, 1) := by decide +kernel
theorem dX12_whom_77 : decode cX12_whom 77 = .ok (.iload 4, 2) := by decide +kernel
theorem dX12_whom_79 : decode cX12_whom 79 = .ok (.invokestatic 403, 3) := by decide +kernel
theorem dX12_whom_82 : decode cX12_whom 82 = .ok (.ireturn, 1) := by decide +kernel
theorem dX12_whom_83 : decode cX12_whom 83 = .ok (.iinc 6 1, 3) := by decide +kernel
theorem dX12_whom_86 : decode cX12_whom 86 = .ok (.goto (-53), 3) := by decide +kernel
theorem dX12_whom_89 : decode cX12_whom 89 = .ok (.iconst (-1), 1) := by decide +kernel
theorem dX12_whom_90 : decode cX12_whom 90 = .ok (.ireturn, 1) := by decide +kernel
theorem dX12_surely_0 : decode cX12_surely 0 = .ok (.aload_n 0, 1) := by decide +kernel
theorem dX12_surely_1 : decode cX12_surely 1 = .ok (.iconst 0, 1) := by decide +kernel
theorem dX12_surely_2 : decode cX12_surely 2 = .ok (.putfield 1, 3) := by decide +kernel
theorem dX12_surely_5 : decode cX12_surely 5 = .ok (.iload_n 1, 1) := by decide +kernel
theorem dX12_surely_6 : decode cX12_surely 6 = .ok (.i2l, 1) := by decide +kernel
theorem dX12_surely_7 : decode cX12_surely 7 = .ok (.lconst 0, 1) := by decide +kernel
theorem dX12_surely_8 : decode cX12_surely 8 = .ok (.ldc2_w 319, 3) := by decide +kernel
theorem dX12_surely_11 : decode cX12_surely 11 = .ok (.invokestatic 138, 3) := by decide +kernel
theorem dX12_surely_14 : decode cX12_surely 14 = .ok (.ifCond .eq 12, 3) := by decide +kernel
theorem dX12_surely_17 : decode cX12_surely 17 = .ok (.iload 4, 2) := by decide +kernel
theorem dX12_surely_19 : decode cX12_surely 19 = .ok (.i2l, 1) := by decide +kernel
theorem dX12_surely_20 : decode cX12_surely 20 = .ok (.invokestatic 250, 3) := by decide +kernel
theorem dX12_surely_23 : decode cX12_surely 23 = .ok (.ifCond .ne 6, 3) := by decide +kernel
theorem dX12_surely_26 : decode cX12_surely 26 = .ok (.bipush (-2), 2) := by decide +kernel
theorem dX12_surely_28 : decode cX12_surely 28 = .ok (.ireturn, 1) := by decide +kernel
theorem dX12_surely_29 : decode cX12_surely 29 = .ok (.aload_n 0, 1) := by decide +kernel
theorem dX12_surely_30 : decode cX12_surely 30 = .ok (.iload_n 1, 1) := by decide +kernel
theorem dX12_surely_31 : decode cX12_surely 31 = .ok (.iload_n 2, 1) := by decide +kernel
theorem dX12_surely_32 : decode cX12_surely 32 = .ok (.iload_n 3, 1) := by decide +kernel
theorem dX12_surely_33 : decode cX12_surely 33 = .ok (.invokevirtual 406, 3) := by decide +kernel
theorem dX12_surely_36 : decode cX12_surely 36 = .ok (.istore 5, 2) := by decide +kernel
theorem dX12_surely_38 : decode cX12_surely 38 = .ok (.iload 5, 2) := by decide +kernel
theorem dX12_surely_40 : decode cX12_surely 40 = .ok (.ifCond .eq 6, 3) := by decide +kernel
theorem dX12_surely_43 : decode cX12_surely 43 = .ok (.iload 5, 2) := by decide +kernel
theorem dX12_surely_45 : decode cX12_surely 45 = .ok (.ireturn, 1) := by decide +kernel
theorem dX12_surely_46 : decode cX12_surely 46 = .ok (.iconst 1, 1) := by decide +kernel
theorem dX12_surely_47 : decode cX12_surely 47 = .ok (.aload_n 0, 1) := by decide +kernel
theorem dX12_surely_48 : decode cX12_surely 48 = .ok (.getfield 66, 3) := by decide +kernel
theorem dX12_surely_51 : decode cX12_surely 51 = .ok (.iload_n 1, 1) := by decide +kernel
theorem dX12_surely_52 : decode cX12_surely 52 = .ok (.iaload, 1) := by decide +kernel
theorem dX12_surely_53 : decode cX12_surely 53 = .ok (.ishl, 1) := by decide +kernel
theorem dX12_surely_54 : decode cX12_surely 54 = .ok (.iconst 1, 1) := by decide +kernel
theorem dX12_surely_55 : decode cX12_surely 55 = .ok (.isub, 1) := by decide +kernel
theorem dX12_surely_56 : decode cX12_surely 56 = .ok (.istore 6, 2) := by decide +kernel
theorem dX12_surely_58 : decode cX12_surely 58 = .ok (.iconst 0, 1) := by decide +kernel
theorem dX12_surely_59 : decode cX12_surely 59 = .ok (.istore 7, 2) := by decide +kernel
theorem dX12_surely_61 : decode cX12_surely 61 = .ok (.iconst 0, 1) := by decide +kernel
theorem dX12_surely_62 : decode cX12_surely 62 = .ok (.istore 8, 2) := by decide +kernel
theorem dX12_surely_64 : decode cX12_surely 64 = .ok (.iload 8, 2) := by decide +kernel
theorem dX12_surely_66 : decode cX12_surely 66 = .ok (.iconst 1, 1) := by decide +kernel
theorem dX12_surely_67 : decode cX12_surely 67 = .ok (.aload_n 0, 1) := by decide +kernel
theorem dX12_surely_68 : decode cX12_surely 68 = .ok (.getfield 66, 3) := by decide +kernel
theorem dX12_surely_71 : decode cX12_surely 71 = .ok (.iload_n 1, 1) := by decide +kernel
theorem dX12_surely_72 : decode cX12_surely 72 = .ok (.iaload, 1) := by decide +kernel
theorem dX12_surely_73 : decode cX12_surely 73 = .ok (.ishl, 1) := by decide +kernel
theorem dX12_surely_74 : decode cX12_surely 74 = .ok (.if_icmp .ge 76, 3) := by decide +kernel
theorem dX12_surely_77 : decode cX12_surely 77 = .ok (.aload_n 0, 1) := by decide +kernel
theorem dX12_surely_78 : decode cX12_surely 78 = .ok (.iload_n 1, 1) := by decide +kernel
theorem dX12_surely_79 : decode cX12_surely 79 = .ok (.iload 8, 2) := by decide +kernel
theorem dX12_surely_81 : decode cX12_surely 81 = .ok (.iload_n 2, 1) := by decide +kernel
theorem dX12_surely_82 : decode cX12_surely 82 = .ok (.iload_n 3, 1) := by decide +kernel
theorem dX12_surely_83 : decode cX12_surely 83 = .ok (.invokevirtual 409, 3) := by decide +kernel
theorem dX12_surely_86 : decode cX12_surely 86 = .ok (.ifCond .ne 6, 3) := by decide +kernel
theorem dX12_surely_89 : decode cX12_surely 89 = .ok (.goto 55, 3) := by decide +kernel
theorem dX12_surely_92 : decode cX12_surely 92 = .ok (.iconst 1, 1) := by decide +kernel
theorem dX12_surely_93 : decode cX12_surely 93 = .ok (.istore 7, 2) := by decide +kernel
theorem dX12_surely_95 : decode cX12_surely 95 = .ok (.iconst 0, 1) := by decide +kernel
theorem dX12_surely_96 : decode cX12_surely 96 = .ok (.istore 9, 2) := by decide +kernel
theorem dX12_surely_98 : decode cX12_surely 98 = .ok (.iload 9, 2) := by decide +kernel
theorem dX12_surely_100 : decode cX12_surely 100 = .ok (.aload_n 0, 1) := by decide +kernel
theorem dX12_surely_101 : decode cX12_surely 101 = .ok (.getfield 66, 3) := by decide +kernel
theorem dX12_surely_104 : decode cX12_surely 104 = .ok (.iload_n 1, 1) := by decide +kernel
theorem dX12_surely_105 : decode cX12_surely 105 = .ok (.iaload, 1) := by decide +kernel
theorem dX12_surely_106 : decode cX12_surely 106 = .ok (.if_icmp .ge 38, 3) := by decide +kernel
theorem dX12_surely_109 : decode cX12_surely 109 = .ok (.iload 8, 2) := by decide +kernel
theorem dX12_surely_111 : decode cX12_surely 111 = .ok (.aload_n 0, 1) := by decide +kernel
theorem dX12_surely_112 : decode cX12_surely 112 = .ok (.getfield 66, 3) := by decide +kernel
theorem dX12_surely_115 : decode cX12_surely 115 = .ok (.iload_n 1, 1) := by decide +kernel
theorem dX12_surely_116 : decode cX12_surely 116 = .ok (.iaload, 1) := by decide +kernel
theorem dX12_surely_117 : decode cX12_surely 117 = .ok (.iload 9, 2) := by decide +kernel
theorem dX12_surely_119 : decode cX12_surely 119 = .ok (.invokestatic 403, 3) := by decide +kernel
theorem dX12_surely_122 : decode cX12_surely 122 = .ok (.iload 4, 2) := by decide +kernel
theorem dX12_surely_124 : decode cX12_surely 124 = .ok (.if_icmp .eq 14, 3) := by decide +kernel
theorem dX12_surely_127 : decode cX12_surely 127 = .ok (.iload 6, 2) := by decide +kernel
theorem dX12_surely_129 : decode cX12_surely 129 = .ok (.iconst 1, 1) := by decide +kernel
theorem dX12_surely_130 : decode cX12_surely 130 = .ok (.iload 9, 2) := by decide +kernel
theorem dX12_surely_132 : decode cX12_surely 132 = .ok (.ishl, 1) := by decide +kernel
theorem dX12_surely_133 : decode cX12_surely 133 = .ok (.iconst (-1), 1) := by decide +kernel
theorem dX12_surely_134 : decode cX12_surely 134 = .ok (.ixor, 1) := by decide +kernel
theorem dX12_surely_135 : decode cX12_surely 135 = .ok (.iand, 1) := by decide +kernel
theorem dX12_surely_136 : decode cX12_surely 136 = .ok (.istore 6, 2) := by decide +kernel
theorem dX12_surely_138 : decode cX12_surely 138 = .ok (.iinc 9 1, 3) := by decide +kernel
theorem dX12_surely_141 : decode cX12_surely 141 = .ok (.goto (-43), 3) := by decide +kernel
theorem dX12_surely_144 : decode cX12_surely 144 = .ok (.iinc 8 1, 3) := by decide +kernel
theorem dX12_surely_147 : decode cX12_surely 147 = .ok (.goto (-83), 3) := by decide +kernel
theorem dX12_surely_150 : decode cX12_surely 150 = .ok (.iload 7, 2) := by decide +kernel
theorem dX12_surely_152 : decode cX12_surely 152 = .ok (.ifCond .eq 8, 3) := by decide +kernel
theorem dX12_surely_155 : decode cX12_surely 155 = .ok (.iload 6, 2) := by decide +kernel
theorem dX12_surely_157 : decode cX12_surely 157 = .ok (.goto 4, 3) := by decide +kernel
theorem dX12_surely_160 : decode cX12_surely 160 = .ok (.iconst 0, 1) := by decide +kernel
theorem dX12_surely_161 : decode cX12_surely 161 = .ok (.ireturn, 1) := by decide +kernel
theorem dX12_isTelling_0 : decode cX12_isTelling 0 = .ok (.lload_n 1, 1) := by decide +kernel
theorem dX12_isTelling_1 : decode cX12_isTelling 1 = .ok (.lconst 0, 1) := by decide +kernel
theorem dX12_isTelling_2 : decode cX12_isTelling 2 = .ok (.ldc2_w 303, 3) := by decide +kernel
theorem dX12_isTelling_5 : decode cX12_isTelling 5 = .ok (.invokestatic 138, 3) := by decide +kernel
theorem dX12_isTelling_8 : decode cX12_isTelling 8 = .ok (.ifCond .eq 19, 3) := by decide +kernel
theorem dX12_isTelling_11 : decode cX12_isTelling 11 = .ok (.aload_n 0, 1) := by decide +kernel
theorem dX12_isTelling_12 : decode cX12_isTelling 12 = .ok (.lload_n 1, 1) := by decide +kernel
theorem dX12_isTelling_13 : decode cX12_isTelling 13 = .ok (.ldc2_w 295, 3) := by decide +kernel
theorem dX12_isTelling_16 : decode cX12_isTelling 16 = .ok (.lrem, 1) := by decide +kernel
theorem dX12_isTelling_17 : decode cX12_isTelling 17 = .ok (.invokevirtual 254, 3) := by decide +kernel
theorem dX12_isTelling_20 : decode cX12_isTelling 20 = .ok (.ifCond .eq 7, 3) := by decide +kernel
theorem dX12_isTelling_23 : decode cX12_isTelling 23 = .ok (.iconst 1, 1) := by decide +kernel
theorem dX12_isTelling_24 : decode cX12_isTelling 24 = .ok (.goto 4, 3) := by decide +kernel
theorem dX12_isTelling_27 : decode cX12_isTelling 27 = .ok (.iconst 0, 1) := by decide +kernel
theorem dX12_isTelling_28 : decode cX12_isTelling 28 = .ok (.ireturn, 1) := by decide +kernel
theorem dX12_noBonds_0 : decode cX12_noBonds 0 = .ok (.aload_n 0, 1) := by decide +kernel
theorem dX12_noBonds_1 : decode cX12_noBonds 1 = .ok (.iload_n 1, 1) := by decide +kernel
theorem dX12_noBonds_2 : decode cX12_noBonds 2 = .ok (.invokevirtual 321, 3) := by decide +kernel
theorem dX12_noBonds_5 : decode cX12_noBonds 5 = .ok (.istore 4, 2) := by decide +kernel
theorem dX12_noBonds_7 : decode cX12_noBonds 7 = .ok (.iload 4, 2) := by decide +kernel
theorem dX12_noBonds_9 : decode cX12_noBonds 9 = .ok (.ifCond .eq 6, 3) := by decide +kernel
theorem dX12_noBonds_12 : decode cX12_noBonds 12 = .ok (.iload 4, 2) := by decide +kernel
theorem dX12_noBonds_14 : decode cX12_noBonds 14 = .ok (.ireturn, 1) := by decide +kernel
theorem dX12_noBonds_15 : decode cX12_noBonds 15 = .ok (.aload_n 0, 1) := by decide +kernel
theorem dX12_noBonds_16 : decode cX12_noBonds 16 = .ok (.getfield 66, 3) := by decide +kernel
theorem dX12_noBonds_19 : decode cX12_noBonds 19 = .ok (.iload_n 1, 1) := by decide +kernel
theorem dX12_noBonds_20 : decode cX12_noBonds 20 = .ok (.iaload, 1) := by decide +kernel
theorem dX12_noBonds_21 : decode cX12_noBonds 21 = .ok (.i2l, 1) := by decide +kernel
theorem dX12_noBonds_22 : decode cX12_noBonds 22 = .ok (.lconst 1, 1) := by decide +kernel
theorem dX12_noBonds_23 : decode cX12_noBonds 23 = .ok (.ldc2_w 396, 3) := by decide +kernel
theorem dX12_noBonds_26 : decode cX12_noBonds 26 = .ok (.invokestatic 138, 3) := by decide +kernel
theorem dX12_noBonds_29 : decode cX12_noBonds 29 = .ok (.ifCond .ne 6, 3) := by decide +kernel
theorem dX12_noBonds_32 : decode cX12_noBonds 32 = .ok (.bipush (-4), 2) := by decide +kernel
theorem dX12_noBonds_34 : decode cX12_noBonds 34 = .ok (.ireturn, 1) := by decide +kernel
theorem dX12_noBonds_35 : decode cX12_noBonds 35 = .ok (.iconst 0, 1) := by decide +kernel
theorem dX12_noBonds_36 : decode cX12_noBonds 36 = .ok (.istore 5, 2) := by decide +kernel
theorem dX12_noBonds_38 : decode cX12_noBonds 38 = .ok (.iload 5, 2) := by decide +kernel
theorem dX12_noBonds_40 : decode cX12_noBonds 40 = .ok (.aload_n 0, 1) := by decide +kernel
theorem dX12_noBonds_41 : decode cX12_noBonds 41 = .ok (.getfield 66, 3) := by decide +kernel
theorem dX12_noBonds_44 : decode cX12_noBonds 44 = .ok (.iload_n 1, 1) := by decide +kernel
theorem dX12_noBonds_45 : decode cX12_noBonds 45 = .ok (.iaload, 1) := by decide +kernel
theorem dX12_noBonds_46 : decode cX12_noBonds 46 = .ok (.if_icmp .ge 50, 3) := by decide +kernel
theorem dX12_noBonds_49 : decode cX12_noBonds 49 = .ok (.aload_n 0, 1) := by decide +kernel
theorem dX12_noBonds_50 : decode cX12_noBonds 50 = .ok (.getfield 69, 3) := by decide +kernel
theorem dX12_noBonds_53 : decode cX12_noBonds 53 = .ok (.bipush 40, 2) := by decide +kernel
theorem dX12_noBonds_55 : decode cX12_noBonds 55 = .ok (.iload_n 1, 1) := by decide +kernel
theorem dX12_noBonds_56 : decode cX12_noBonds 56 = .ok (.imul, 1) := by decide +kernel
theorem dX12_noBonds_57 : decode cX12_noBonds 57 = .ok (.iload 5, 2) := by decide +kernel
theorem dX12_noBonds_59 : decode cX12_noBonds 59 = .ok (.iadd, 1) := by decide +kernel
theorem dX12_noBonds_60 : decode cX12_noBonds 60 = .ok (.laload, 1) := by decide +kernel
theorem dX12_noBonds_61 : decode cX12_noBonds 61 = .ok (.ldc2_w 297, 3) := by decide +kernel
theorem dX12_noBonds_64 : decode cX12_noBonds 64 = .ok (.lcmp, 1) := by decide +kernel
theorem dX12_noBonds_65 : decode cX12_noBonds 65 = .ok (.ifCond .eq 25, 3) := by decide +kernel
theorem dX12_noBonds_68 : decode cX12_noBonds 68 = .ok (.aload_n 0, 1) := by decide +kernel
theorem dX12_noBonds_69 : decode cX12_noBonds 69 = .ok (.aload_n 0, 1) := by decide +kernel
theorem dX12_noBonds_70 : decode cX12_noBonds 70 = .ok (.getfield 69, 3) := by decide +kernel
theorem dX12_noBonds_73 : decode cX12_noBonds 73 = .ok (.bipush 40, 2) := by decide +kernel
theorem dX12_noBonds_75 : decode cX12_noBonds 75 = .ok (.iload_n 1, 1) := by decide +kernel
theorem dX12_noBonds_76 : decode cX12_noBonds 76 = .ok (.imul, 1) := by decide +kernel
theorem dX12_noBonds_77 : decode cX12_noBonds 77 = .ok (.iload 5, 2) := by decide +kernel
theorem dX12_noBonds_79 : decode cX12_noBonds 79 = .ok (.iadd, 1) := by decide +kernel
theorem dX12_noBonds_80 : decode cX12_noBonds 80 = .ok (.laload, 1) := by decide +kernel
theorem dX12_noBonds_81 : decode cX12_noBonds 81 = .ok (.invokevirtual 413, 3) := by decide +kernel
theorem dX12_noBonds_84 : decode cX12_noBonds 84 = .ok (.ifCond .ne 6, 3) := by decide +kernel
theorem dX12_noBonds_87 : decode cX12_noBonds 87 = .ok (.bipush (-3), 2) := by decide +kernel
theorem dX12_noBonds_89 : decode cX12_noBonds 89 = .ok (.ireturn, 1) := by decide +kernel
theorem dX12_noBonds_90 : decode cX12_noBonds 90 = .ok (.iinc 5 1, 3) := by decide +kernel
theorem dX12_noBonds_93 : decode cX12_noBonds 93 = .ok (.goto (-55), 3) := by decide +kernel
theorem dX12_noBonds_96 : decode cX12_noBonds 96 = .ok (.aload_n 0, 1) := by decide +kernel
theorem dX12_noBonds_97 : decode cX12_noBonds 97 = .ok (.iload_n 2, 1) := by decide +kernel
theorem dX12_noBonds_98 : decode cX12_noBonds 98 = .ok (.iload_n 3, 1) := by decide +kernel
theorem dX12_noBonds_99 : decode cX12_noBonds 99 = .ok (.invokevirtual 375, 3) := by decide +kernel
theorem dX12_noBonds_102 : decode cX12_noBonds 102 = .ok (.ifCond .eq 7, 3) := by decide +kernel
theorem dX12_noBonds_105 : decode cX12_noBonds 105 = .ok (.iconst 0, 1) := by decide +kernel
theorem dX12_noBonds_106 : decode cX12_noBonds 106 = .ok (.goto 5, 3) := by decide +kernel
theorem dX12_noBonds_109 : decode cX12_noBonds 109 = .ok (.bipush (-3), 2) := by decide +kernel
theorem dX12_noBonds_111 : decode cX12_noBonds 111 = .ok (.ireturn, 1) := by decide +kernel
theorem dX12_bondsOf_0 : decode cX12_bondsOf 0 = .ok (.aload_n 0, 1) := by decide +kernel
theorem dX12_bondsOf_1 : decode cX12_bondsOf 1 = .ok (.invokevirtual 273, 3) := by decide +kernel
theorem dX12_bondsOf_4 : decode cX12_bondsOf 4 = .ok (.iconst 0, 1) := by decide +kernel
theorem dX12_bondsOf_5 : decode cX12_bondsOf 5 = .ok (.istore 4, 2) := by decide +kernel
theorem dX12_bondsOf_7 : decode cX12_bondsOf 7 = .ok (.iconst 0, 1) := by decide +kernel
theorem dX12_bondsOf_8 : decode cX12_bondsOf 8 = .ok (.istore 5, 2) := by decide +kernel
theorem dX12_bondsOf_10 : decode cX12_bondsOf 10 = .ok (.iload 5, 2) := by decide +kernel
theorem dX12_bondsOf_12 : decode cX12_bondsOf 12 = .ok (.bipush 9, 2) := by decide +kernel
theorem dX12_bondsOf_14 : decode cX12_bondsOf 14 = .ok (.if_icmp .gt 79, 3) := by decide +kernel
theorem dX12_bondsOf_17 : decode cX12_bondsOf 17 = .ok (.aload_n 0, 1) := by decide +kernel
theorem dX12_bondsOf_18 : decode cX12_bondsOf 18 = .ok (.getfield 13, 3) := by decide +kernel
theorem dX12_bondsOf_21 : decode cX12_bondsOf 21 = .ok (.bipush 51, 2) := by decide +kernel
theorem dX12_bondsOf_23 : decode cX12_bondsOf 23 = .ok (.iload 5, 2) := by decide +kernel
theorem dX12_bondsOf_25 : decode cX12_bondsOf 25 = .ok (.iastore, 1) := by decide +kernel
theorem dX12_bondsOf_26 : decode cX12_bondsOf 26 = .ok (.aload_n 0, 1) := by decide +kernel
theorem dX12_bondsOf_27 : decode cX12_bondsOf 27 = .ok (.iload_n 1, 1) := by decide +kernel
theorem dX12_bondsOf_28 : decode cX12_bondsOf 28 = .ok (.invokevirtual 324, 3) := by decide +kernel
theorem dX12_bondsOf_31 : decode cX12_bondsOf 31 = .ok (.istore 6, 2) := by decide +kernel
theorem dX12_bondsOf_33 : decode cX12_bondsOf 33 = .ok (.iload 4, 2) := by decide +kernel
theorem dX12_bondsOf_35 : decode cX12_bondsOf 35 = .ok (.iload 6, 2) := by decide +kernel
theorem dX12_bondsOf_37 : decode cX12_bondsOf 37 = .ok (.aload_n 0, 1) := by decide +kernel
theorem dX12_bondsOf_38 : decode cX12_bondsOf 38 = .ok (.getfield 66, 3) := by decide +kernel
theorem dX12_bondsOf_41 : decode cX12_bondsOf 41 = .ok (.iload_n 1, 1) := by decide +kernel
theorem dX12_bondsOf_42 : decode cX12_bondsOf 42 = .ok (.iaload, 1) := by decide +kernel
theorem dX12_bondsOf_43 : decode cX12_bondsOf 43 = .ok (.if_icmp .ne 36, 3) := by decide +kernel
theorem dX12_bondsOf_46 : decode cX12_bondsOf 46 = .ok (.aload_n 0, 1) := by decide +kernel
theorem dX12_bondsOf_47 : decode cX12_bondsOf 47 = .ok (.aload_n 0, 1) := by decide +kernel
theorem dX12_bondsOf_48 : decode cX12_bondsOf 48 = .ok (.invokevirtual 260, 3) := by decide +kernel
theorem dX12_bondsOf_51 : decode cX12_bondsOf 51 = .ok (.iconst 0, 1) := by decide +kernel
theorem dX12_bondsOf_52 : decode cX12_bondsOf 52 = .ok (.invokevirtual 244, 3) := by decide +kernel
theorem dX12_bondsOf_55 : decode cX12_bondsOf 55 = .ok (.iload_n 2, 1) := by decide +kernel
theorem dX12_bondsOf_56 : decode cX12_bondsOf 56 = .ok (.if_icmp .ne 23, 3) := by decide +kernel
theorem dX12_bondsOf_59 : decode cX12_bondsOf 59 = .ok (.aload_n 0, 1) := by decide +kernel
theorem dX12_bondsOf_60 : decode cX12_bondsOf 60 = .ok (.aload_n 0, 1) := by decide +kernel
theorem dX12_bondsOf_61 : decode cX12_bondsOf 61 = .ok (.invokevirtual 260, 3) := by decide +kernel
theorem dX12_bondsOf_64 : decode cX12_bondsOf 64 = .ok (.iconst 1, 1) := by decide +kernel
theorem dX12_bondsOf_65 : decode cX12_bondsOf 65 = .ok (.invokevirtual 244, 3) := by decide +kernel
theorem dX12_bondsOf_68 : decode cX12_bondsOf 68 = .ok (.iload_n 3, 1) := by decide +kernel
theorem dX12_bondsOf_69 : decode cX12_bondsOf 69 = .ok (.if_icmp .ne 10, 3) := by decide +kernel
theorem dX12_bondsOf_72 : decode cX12_bondsOf 72 = .ok (.iconst 1, 1) := by decide +kernel
theorem dX12_bondsOf_73 : decode cX12_bondsOf 73 = .ok (.iload 5, 2) := by decide +kernel
theorem dX12_bondsOf_75 : decode cX12_bondsOf 75 = .ok (.ishl, 1) := by decide +kernel
theorem dX12_bondsOf_76 : decode cX12_bondsOf 76 = .ok (.goto 4, 3) := by decide +kernel
theorem dX12_bondsOf_79 : decode cX12_bondsOf 79 = .ok (.iconst 0, 1) := by decide +kernel
theorem dX12_bondsOf_80 : decode cX12_bondsOf 80 = .ok (.ior, 1) := by decide +kernel
theorem dX12_bondsOf_81 : decode cX12_bondsOf 81 = .ok (.istore 4, 2) := by decide +kernel
theorem dX12_bondsOf_83 : decode cX12_bondsOf 83 = .ok (.aload_n 0, 1) := by decide +kernel
theorem dX12_bondsOf_84 : decode cX12_bondsOf 84 = .ok (.invokevirtual 327, 3) := by decide +kernel
theorem dX12_bondsOf_87 : decode cX12_bondsOf 87 = .ok (.iinc 5 1, 3) := by decide +kernel
theorem dX12_bondsOf_90 : decode cX12_bondsOf 90 = .ok (.goto (-80), 3) := by decide +kernel
theorem dX12_bondsOf_93 : decode cX12_bondsOf 93 = .ok (.iload 4, 2) := by decide +kernel
theorem dX12_bondsOf_95 : decode cX12_bondsOf 95 = .ok (.ireturn, 1) := by decide +kernel
theorem dX12_bonds_0 : decode cX12_bonds 0 = .ok (.aload_n 0, 1) := by decide +kernel
theorem dX12_bonds_1 : decode cX12_bonds 1 = .ok (.iconst 0, 1) := by decide +kernel
theorem dX12_bonds_2 : decode cX12_bonds 2 = .ok (.putfield 1, 3) := by decide +kernel
theorem dX12_bonds_5 : decode cX12_bonds 5 = .ok (.aload_n 0, 1) := by decide +kernel
theorem dX12_bonds_6 : decode cX12_bonds 6 = .ok (.iload_n 1, 1) := by decide +kernel
theorem dX12_bonds_7 : decode cX12_bonds 7 = .ok (.iload_n 2, 1) := by decide +kernel
theorem dX12_bonds_8 : decode cX12_bonds 8 = .ok (.iload_n 3, 1) := by decide +kernel
theorem dX12_bonds_9 : decode cX12_bonds 9 = .ok (.invokevirtual 416, 3) := by decide +kernel
theorem dX12_bonds_12 : decode cX12_bonds 12 = .ok (.istore 4, 2) := by decide +kernel
theorem dX12_bonds_14 : decode cX12_bonds 14 = .ok (.iload 4, 2) := by decide +kernel
theorem dX12_bonds_16 : decode cX12_bonds 16 = .ok (.ifCond .eq 8, 3) := by decide +kernel
theorem dX12_bonds_19 : decode cX12_bonds 19 = .ok (.iload 4, 2) := by decide +kernel
theorem dX12_bonds_21 : decode cX12_bonds 21 = .ok (.goto 10, 3) := by decide +kernel
theorem dX12_bonds_24 : decode cX12_bonds 24 = .ok (.aload_n 0, 1) := by decide +kernel
theorem dX12_bonds_25 : decode cX12_bonds 25 = .ok (.iload_n 1, 1) := by decide +kernel
theorem dX12_bonds_26 : decode cX12_bonds 26 = .ok (.iload_n 2, 1) := by decide +kernel
theorem dX12_bonds_27 : decode cX12_bonds 27 = .ok (.iload_n 3, 1) := by decide +kernel
theorem dX12_bonds_28 : decode cX12_bonds 28 = .ok (.invokevirtual 419, 3) := by decide +kernel
theorem dX12_bonds_31 : decode cX12_bonds 31 = .ok (.ireturn, 1) := by decide +kernel
theorem dX12_mostOften_0 : decode cX12_mostOften 0 = .ok (.aload_n 0, 1) := by decide +kernel
theorem dX12_mostOften_1 : decode cX12_mostOften 1 = .ok (.getfield 13, 3) := by decide +kernel
theorem dX12_mostOften_4 : decode cX12_mostOften 4 = .ok (.bipush 51, 2) := by decide +kernel
theorem dX12_mostOften_6 : decode cX12_mostOften 6 = .ok (.iaload, 1) := by decide +kernel
theorem dX12_mostOften_7 : decode cX12_mostOften 7 = .ok (.istore 4, 2) := by decide +kernel
theorem dX12_mostOften_9 : decode cX12_mostOften 9 = .ok (.iconst 0, 1) := by decide +kernel
theorem dX12_mostOften_10 : decode cX12_mostOften 10 = .ok (.istore 5, 2) := by decide +kernel
theorem dX12_mostOften_12 : decode cX12_mostOften 12 = .ok (.iconst 0, 1) := by decide +kernel
theorem dX12_mostOften_13 : decode cX12_mostOften 13 = .ok (.istore 6, 2) := by decide +kernel
theorem dX12_mostOften_15 : decode cX12_mostOften 15 = .ok (.iload 6, 2) := by decide +kernel
theorem dX12_mostOften_17 : decode cX12_mostOften 17 = .ok (.iconst 3, 1) := by decide +kernel
theorem dX12_mostOften_18 : decode cX12_mostOften 18 = .ok (.if_icmp .gt 17, 3) := by decide +kernel
theorem dX12_mostOften_21 : decode cX12_mostOften 21 = .ok (.aload_n 0, 1) := by decide +kernel
theorem dX12_mostOften_22 : decode cX12_mostOften 22 = .ok (.getfield 57, 3) := by decide +kernel
theorem dX12_mostOften_25 : decode cX12_mostOften 25 = .ok (.iload 6, 2) := by decide +kernel
theorem dX12_mostOften_27 : decode cX12_mostOften 27 = .ok (.iconst 0, 1) := by decide +kernel
theorem dX12_mostOften_28 : decode cX12_mostOften 28 = .ok (.iastore, 1) := by decide +kernel
theorem dX12_mostOften_29 : decode cX12_mostOften 29 = .ok (.iinc 6 1, 3) := by decide +kernel
theorem dX12_mostOften_32 : decode cX12_mostOften 32 = .ok (.goto (-17), 3) := by decide +kernel
theorem dX12_mostOften_35 : decode cX12_mostOften 35 = .ok (.iconst 0, 1) := by decide +kernel
theorem dX12_mostOften_36 : decode cX12_mostOften 36 = .ok (.istore 6, 2) := by decide +kernel
theorem dX12_mostOften_38 : decode cX12_mostOften 38 = .ok (.iload 6, 2) := by decide +kernel
theorem dX12_mostOften_40 : decode cX12_mostOften 40 = .ok (.bipush 9, 2) := by decide +kernel
theorem dX12_mostOften_42 : decode cX12_mostOften 42 = .ok (.if_icmp .gt 88, 3) := by decide +kernel
theorem dX12_mostOften_45 : decode cX12_mostOften 45 = .ok (.aload_n 0, 1) := by decide +kernel
theorem dX12_mostOften_46 : decode cX12_mostOften 46 = .ok (.getfield 13, 3) := by decide +kernel
theorem dX12_mostOften_49 : decode cX12_mostOften 49 = .ok (.bipush 51, 2) := by decide +kernel
theorem dX12_mostOften_51 : decode cX12_mostOften 51 = .ok (.iload 6, 2) := by decide +kernel
theorem dX12_mostOften_53 : decode cX12_mostOften 53 = .ok (.iastore, 1) := by decide +kernel
theorem dX12_mostOften_54 : decode cX12_mostOften 54 = .ok (.aload_n 0, 1) := by decide +kernel
theorem dX12_mostOften_55 : decode cX12_mostOften 55 = .ok (.aload_n 0, 1) := by decide +kernel
theorem dX12_mostOften_56 : decode cX12_mostOften 56 = .ok (.invokevirtual 260, 3) := by decide +kernel
theorem dX12_mostOften_59 : decode cX12_mostOften 59 = .ok (.iload_n 1, 1) := by decide +kernel
theorem dX12_mostOften_60 : decode cX12_mostOften 60 = .ok (.iload_n 2, 1) := by decide +kernel
theorem dX12_mostOften_61 : decode cX12_mostOften 61 = .ok (.invokevirtual 266, 3) := by decide +kernel
theorem dX12_mostOften_64 : decode cX12_mostOften 64 = .ok (.iconst 1, 1) := by decide +kernel
theorem dX12_mostOften_65 : decode cX12_mostOften 65 = .ok (.iload_n 1, 1) := by decide +kernel
theorem dX12_mostOften_66 : decode cX12_mostOften 66 = .ok (.isub, 1) := by decide +kernel
theorem dX12_mostOften_67 : decode cX12_mostOften 67 = .ok (.iload_n 2, 1) := by decide +kernel
theorem dX12_mostOften_68 : decode cX12_mostOften 68 = .ok (.invokestatic 214, 3) := by decide +kernel
theorem dX12_mostOften_71 : decode cX12_mostOften 71 = .ok (.istore 7, 2) := by decide +kernel
theorem dX12_mostOften_73 : decode cX12_mostOften 73 = .ok (.aload_n 0, 1) := by decide +kernel
theorem dX12_mostOften_74 : decode cX12_mostOften 74 = .ok (.getfield 57, 3) := by decide +kernel
theorem dX12_mostOften_77 : decode cX12_mostOften 77 = .ok (.iload 7, 2) := by decide +kernel
theorem dX12_mostOften_79 : decode cX12_mostOften 79 = .ok (.dup2, 1) := by decide +kernel
theorem dX12_mostOften_80 : decode cX12_mostOften 80 = .ok (.iaload, 1) := by decide +kernel
theorem dX12_mostOften_81 : decode cX12_mostOften 81 = .ok (.iload_n 3, 1) := by decide +kernel
theorem dX12_mostOften_82 : decode cX12_mostOften 82 = .ok (.i2l, 1) := by decide +kernel
theorem dX12_mostOften_83 : decode cX12_mostOften 83 = .ok (.iload 6, 2) := by decide +kernel
theorem dX12_mostOften_85 : decode cX12_mostOften 85 = .ok (.invokestatic 236, 3) := by decide +kernel
theorem dX12_mostOften_88 : decode cX12_mostOften 88 = .ok (.ifCond .eq 7, 3) := by decide +kernel
theorem dX12_mostOften_91 : decode cX12_mostOften 91 = .ok (.iconst 1, 1) := by decide +kernel
theorem dX12_mostOften_92 : decode cX12_mostOften 92 = .ok (.goto 4, 3) := by decide +kernel
theorem dX12_mostOften_95 : decode cX12_mostOften 95 = .ok (.iconst 0, 1) := by decide +kernel
theorem dX12_mostOften_96 : decode cX12_mostOften 96 = .ok (.iadd, 1) := by decide +kernel
theorem dX12_mostOften_97 : decode cX12_mostOften 97 = .ok (.iastore, 1) := by decide +kernel
theorem dX12_mostOften_98 : decode cX12_mostOften 98 = .ok (.aload_n 0, 1) := by decide +kernel
theorem dX12_mostOften_99 : decode cX12_mostOften 99 = .ok (.getfield 57, 3) := by decide +kernel
theorem dX12_mostOften_102 : decode cX12_mostOften 102 = .ok (.iload 7, 2) := by decide +kernel
theorem dX12_mostOften_104 : decode cX12_mostOften 104 = .ok (.iaload, 1) := by decide +kernel
theorem dX12_mostOften_105 : decode cX12_mostOften 105 = .ok (.iload 5, 2) := by decide +kernel
theorem dX12_mostOften_107 : decode cX12_mostOften 107 = .ok (.if_icmp .le 13, 3) := by decide +kernel
theorem dX12_mostOften_110 : decode cX12_mostOften 110 = .ok (.aload_n 0, 1) := by decide +kernel
theorem dX12_mostOften_111 : decode cX12_mostOften 111 = .ok (.getfield 57, 3) := by decide +kernel
theorem dX12_mostOften_114 : decode cX12_mostOften 114 = .ok (.iload 7, 2) := by decide +kernel
theorem dX12_mostOften_116 : decode cX12_mostOften 116 = .ok (.iaload, 1) := by decide +kernel
theorem dX12_mostOften_117 : decode cX12_mostOften 117 = .ok (.goto 5, 3) := by decide +kernel
theorem dX12_mostOften_120 : decode cX12_mostOften 120 = .ok (.iload 5, 2) := by decide +kernel
theorem dX12_mostOften_122 : decode cX12_mostOften 122 = .ok (.istore 5, 2) := by decide +kernel
theorem dX12_mostOften_124 : decode cX12_mostOften 124 = .ok (.iinc 6 1, 3) := by decide +kernel
theorem dX12_mostOften_127 : decode cX12_mostOften 127 = .ok (.goto (-89), 3) := by decide +kernel
theorem dX12_mostOften_130 : decode cX12_mostOften 130 = .ok (.aload_n 0, 1) := by decide +kernel
theorem dX12_mostOften_131 : decode cX12_mostOften 131 = .ok (.getfield 13, 3) := by decide +kernel
theorem dX12_mostOften_134 : decode cX12_mostOften 134 = .ok (.bipush 51, 2) := by decide +kernel
theorem dX12_mostOften_136 : decode cX12_mostOften 136 = .ok (.iload 4, 2) := by decide +kernel
theorem dX12_mostOften_138 : decode cX12_mostOften 138 = .ok (.iastore, 1) := by decide +kernel
theorem dX12_mostOften_139 : decode cX12_mostOften 139 = .ok (.iload 5, 2) := by decide +kernel
theorem dX12_mostOften_141 : decode cX12_mostOften 141 = .ok (.ireturn, 1) := by decide +kernel
theorem dX12_attempt_0 : decode cX12_attempt 0 = .ok (.aload_n 0, 1) := by decide +kernel
theorem dX12_attempt_1 : decode cX12_attempt 1 = .ok (.iconst 0, 1) := by decide +kernel
theorem dX12_attempt_2 : decode cX12_attempt 2 = .ok (.putfield 1, 3) := by decide +kernel
theorem dX12_attempt_5 : decode cX12_attempt 5 = .ok (.aload_n 0, 1) := by decide +kernel
theorem dX12_attempt_6 : decode cX12_attempt 6 = .ok (.iload_n 1, 1) := by decide +kernel
theorem dX12_attempt_7 : decode cX12_attempt 7 = .ok (.iload_n 2, 1) := by decide +kernel
theorem dX12_attempt_8 : decode cX12_attempt 8 = .ok (.iload_n 3, 1) := by decide +kernel
theorem dX12_attempt_9 : decode cX12_attempt 9 = .ok (.invokevirtual 416, 3) := by decide +kernel
theorem dX12_attempt_12 : decode cX12_attempt 12 = .ok (.istore 4, 2) := by decide +kernel
theorem dX12_attempt_14 : decode cX12_attempt 14 = .ok (.iload 4, 2) := by decide +kernel
theorem dX12_attempt_16 : decode cX12_attempt 16 = .ok (.ifCond .eq 6, 3) := by decide +kernel
theorem dX12_attempt_19 : decode cX12_attempt 19 = .ok (.iload 4, 2) := by decide +kernel
theorem dX12_attempt_21 : decode cX12_attempt 21 = .ok (.ireturn, 1) := by decide +kernel
theorem dX12_attempt_22 : decode cX12_attempt 22 = .ok (.aload_n 0, 1) := by decide +kernel
theorem dX12_attempt_23 : decode cX12_attempt 23 = .ok (.iload_n 1, 1) := by decide +kernel
theorem dX12_attempt_24 : decode cX12_attempt 24 = .ok (.iload_n 2, 1) := by decide +kernel
theorem dX12_attempt_25 : decode cX12_attempt 25 = .ok (.iload_n 3, 1) := by decide +kernel
theorem dX12_attempt_26 : decode cX12_attempt 26 = .ok (.invokevirtual 419, 3) := by decide +kernel
theorem dX12_attempt_29 : decode cX12_attempt 29 = .ok (.istore 5, 2) := by decide +kernel
theorem dX12_attempt_31 : decode cX12_attempt 31 = .ok (.iconst (-1), 1) := by decide +kernel
theorem dX12_attempt_32 : decode cX12_attempt 32 = .ok (.istore 6, 2) := by decide +kernel
theorem dX12_attempt_34 : decode cX12_attempt 34 = .ok (.bipush 11, 2) := by decide +kernel
theorem dX12_attempt_36 : decode cX12_attempt 36 = .ok (.istore 7, 2) := by decide +kernel
theorem dX12_attempt_38 : decode cX12_attempt 38 = .ok (.iconst 0, 1) := by decide +kernel
theorem dX12_attempt_39 : decode cX12_attempt 39 = .ok (.istore 8, 2) := by decide +kernel
theorem dX12_attempt_41 : decode cX12_attempt 41 = .ok (.iload 8, 2) := by decide +kernel
theorem dX12_attempt_43 : decode cX12_attempt 43 = .ok (.bipush 8, 2) := by decide +kernel
theorem dX12_attempt_45 : decode cX12_attempt 45 = .ok (.if_icmp .ge 86, 3) := by decide +kernel
theorem dX12_attempt_48 : decode cX12_attempt 48 = .ok (.iload 5, 2) := by decide +kernel
theorem dX12_attempt_50 : decode cX12_attempt 50 = .ok (.ifCond .eq 81, 3) := by decide +kernel
theorem dX12_attempt_53 : decode cX12_attempt 53 = .ok (.iload 8, 2) := by decide +kernel
theorem dX12_attempt_55 : decode cX12_attempt 55 = .ok (.iconst 4, 1) := by decide +kernel
theorem dX12_attempt_56 : decode cX12_attempt 56 = .ok (.irem, 1) := by decide +kernel
theorem dX12_attempt_57 : decode cX12_attempt 57 = .ok (.istore 9, 2) := by decide +kernel
theorem dX12_attempt_59 : decode cX12_attempt 59 = .ok (.iload 9, 2) := by decide +kernel
theorem dX12_attempt_61 : decode cX12_attempt 61 = .ok (.aload_n 0, 1) := by decide +kernel
theorem dX12_attempt_62 : decode cX12_attempt 62 = .ok (.getfield 13, 3) := by decide +kernel
theorem dX12_attempt_65 : decode cX12_attempt 65 = .ok (.iconst 1, 1) := by decide +kernel
theorem dX12_attempt_66 : decode cX12_attempt 66 = .ok (.iaload, 1) := by decide +kernel
theorem dX12_attempt_67 : decode cX12_attempt 67 = .ok (.if_icmp .ge 58, 3) := by decide +kernel
theorem dX12_attempt_70 : decode cX12_attempt 70 = .ok (.aload_n 0, 1) := by decide +kernel
theorem dX12_attempt_71 : decode cX12_attempt 71 = .ok (.aload_n 0, 1) := by decide +kernel
theorem dX12_attempt_72 : decode cX12_attempt 72 = .ok (.invokevirtual 260, 3) := by decide +kernel
theorem dX12_attempt_75 : decode cX12_attempt 75 = .ok (.iload 8, 2) := by decide +kernel
theorem dX12_attempt_77 : decode cX12_attempt 77 = .ok (.iconst 4, 1) := by decide +kernel
theorem dX12_attempt_78 : decode cX12_attempt 78 = .ok (.idiv, 1) := by decide +kernel
theorem dX12_attempt_79 : decode cX12_attempt 79 = .ok (.iload 9, 2) := by decide +kernel
theorem dX12_attempt_81 : decode cX12_attempt 81 = .ok (.invokevirtual 263, 3) := by decide +kernel
theorem dX12_attempt_84 : decode cX12_attempt 84 = .ok (.ifCond .ne 6, 3) := by decide +kernel
theorem dX12_attempt_87 : decode cX12_attempt 87 = .ok (.goto 38, 3) := by decide +kernel
theorem dX12_attempt_90 : decode cX12_attempt 90 = .ok (.aload_n 0, 1) := by decide +kernel
theorem dX12_attempt_91 : decode cX12_attempt 91 = .ok (.iload 8, 2) := by decide +kernel
theorem dX12_attempt_93 : decode cX12_attempt 93 = .ok (.iconst 4, 1) := by decide +kernel
theorem dX12_attempt_94 : decode cX12_attempt 94 = .ok (.idiv, 1) := by decide +kernel
theorem dX12_attempt_95 : decode cX12_attempt 95 = .ok (.iload 9, 2) := by decide +kernel
theorem dX12_attempt_97 : decode cX12_attempt 97 = .ok (.iload 5, 2) := by decide +kernel
theorem dX12_attempt_99 : decode cX12_attempt 99 = .ok (.invokevirtual 422, 3) := by decide +kernel
theorem dX12_attempt_102 : decode cX12_attempt 102 = .ok (.istore 10, 2) := by decide +kernel
theorem dX12_attempt_104 : decode cX12_attempt 104 = .ok (.iload 10, 2) := by decide +kernel
theorem dX12_attempt_106 : decode cX12_attempt 106 = .ok (.iload 7, 2) := by decide +kernel
theorem dX12_attempt_108 : decode cX12_attempt 108 = .ok (.if_icmp .lt 6, 3) := by decide +kernel
theorem dX12_attempt_111 : decode cX12_attempt 111 = .ok (.goto 14, 3) := by decide +kernel
theorem dX12_attempt_114 : decode cX12_attempt 114 = .ok (.iload 8, 2) := by decide +kernel
theorem dX12_attempt_116 : decode cX12_attempt 116 = .ok (.invokestatic 369, 3) := by decide +kernel
theorem dX12_attempt_119 : decode cX12_attempt 119 = .ok (.istore 6, 2) := by decide +kernel
theorem dX12_attempt_121 : decode cX12_attempt 121 = .ok (.iload 10, 2) := by decide +kernel
theorem dX12_attempt_123 : decode cX12_attempt 123 = .ok (.istore 7, 2) := by decide +kernel
theorem dX12_attempt_125 : decode cX12_attempt 125 = .ok (.iinc 8 1, 3) := by decide +kernel
theorem dX12_attempt_128 : decode cX12_attempt 128 = .ok (.goto (-87), 3) := by decide +kernel
theorem dX12_attempt_131 : decode cX12_attempt 131 = .ok (.iload 6, 2) := by decide +kernel
theorem dX12_attempt_133 : decode cX12_attempt 133 = .ok (.ireturn, 1) := by decide +kernel
theorem dX12_someBy_0 : decode cX12_someBy 0 = .ok (.iconst 0, 1) := by decide +kernel
theorem dX12_someBy_1 : decode cX12_someBy 1 = .ok (.istore_n 3, 1) := by decide +kernel
theorem dX12_someBy_2 : decode cX12_someBy 2 = .ok (.iload_n 3, 1) := by decide +kernel
theorem dX12_someBy_3 : decode cX12_someBy 3 = .ok (.bipush 9, 2) := by decide +kernel
theorem dX12_someBy_5 : decode cX12_someBy 5 = .ok (.if_icmp .ge 41, 3) := by decide +kernel
theorem dX12_someBy_8 : decode cX12_someBy 8 = .ok (.aload_n 0, 1) := by decide +kernel
theorem dX12_someBy_9 : decode cX12_someBy 9 = .ok (.getfield 44, 3) := by decide +kernel
theorem dX12_someBy_12 : decode cX12_someBy 12 = .ok (.bipush 9, 2) := by decide +kernel
theorem dX12_someBy_14 : decode cX12_someBy 14 = .ok (.iload_n 1, 1) := by decide +kernel
theorem dX12_someBy_15 : decode cX12_someBy 15 = .ok (.imul, 1) := by decide +kernel
theorem dX12_someBy_16 : decode cX12_someBy 16 = .ok (.iload_n 3, 1) := by decide +kernel
theorem dX12_someBy_17 : decode cX12_someBy 17 = .ok (.iadd, 1) := by decide +kernel
theorem dX12_someBy_18 : decode cX12_someBy 18 = .ok (.iaload, 1) := by decide +kernel
theorem dX12_someBy_19 : decode cX12_someBy 19 = .ok (.istore 4, 2) := by decide +kernel
theorem dX12_someBy_21 : decode cX12_someBy 21 = .ok (.iload 4, 2) := by decide +kernel
theorem dX12_someBy_23 : decode cX12_someBy 23 = .ok (.iconst (-1), 1) := by decide +kernel
theorem dX12_someBy_24 : decode cX12_someBy 24 = .ok (.if_icmp .eq 16, 3) := by decide +kernel
theorem dX12_someBy_27 : decode cX12_someBy 27 = .ok (.aload_n 0, 1) := by decide +kernel
theorem dX12_someBy_28 : decode cX12_someBy 28 = .ok (.getfield 60, 3) := by decide +kernel
theorem dX12_someBy_31 : decode cX12_someBy 31 = .ok (.iload 4, 2) := by decide +kernel
theorem dX12_someBy_33 : decode cX12_someBy 33 = .ok (.iaload, 1) := by decide +kernel
theorem dX12_someBy_34 : decode cX12_someBy 34 = .ok (.iload_n 2, 1) := by decide +kernel
theorem dX12_someBy_35 : decode cX12_someBy 35 = .ok (.if_icmp .ge 5, 3) := by decide +kernel
theorem dX12_someBy_38 : decode cX12_someBy 38 = .ok (.iconst 1, 1) := by decide +kernel
theorem dX12_someBy_39 : decode cX12_someBy 39 = .ok (.ireturn, 1) := by decide +kernel
theorem dX12_someBy_40 : decode cX12_someBy 40 = .ok (.iinc 3 1, 3) := by decide +kernel
theorem dX12_someBy_43 : decode cX12_someBy 43 = .ok (.goto (-41), 3) := by decide +kernel
theorem dX12_someBy_46 : decode cX12_someBy 46 = .ok (.iconst 0, 1) := by decide +kernel
theorem dX12_someBy_47 : decode cX12_someBy 47 = .ok (.ireturn, 1) := by decide +kernel
theorem dX12_everyBy_0 : decode cX12_everyBy 0 = .ok (.iconst 0, 1) := by decide +kernel
theorem dX12_everyBy_1 : decode cX12_everyBy 1 = .ok (.istore_n 3, 1) := by decide +kernel
theorem dX12_everyBy_2 : decode cX12_everyBy 2 = .ok (.iload_n 3, 1) := by decide +kernel
theorem dX12_everyBy_3 : decode cX12_everyBy 3 = .ok (.bipush 9, 2) := by decide +kernel
theorem dX12_everyBy_5 : decode cX12_everyBy 5 = .ok (.if_icmp .ge 41, 3) := by decide +kernel
theorem dX12_everyBy_8 : decode cX12_everyBy 8 = .ok (.aload_n 0, 1) := by decide +kernel
theorem dX12_everyBy_9 : decode cX12_everyBy 9 = .ok (.getfield 44, 3) := by decide +kernel
theorem dX12_everyBy_12 : decode cX12_everyBy 12 = .ok (.bipush 9, 2) := by decide +kernel
theorem dX12_everyBy_14 : decode cX12_everyBy 14 = .ok (.iload_n 1, 1) := by decide +kernel
theorem dX12_everyBy_15 : decode cX12_everyBy 15 = .ok (.imul, 1) := by decide +kernel
theorem dX12_everyBy_16 : decode cX12_everyBy 16 = .ok (.iload_n 3, 1) := by decide +kernel
theorem dX12_everyBy_17 : decode cX12_everyBy 17 = .ok (.iadd, 1) := by decide +kernel
theorem dX12_everyBy_18 : decode cX12_everyBy 18 = .ok (.iaload, 1) := by decide +kernel
theorem dX12_everyBy_19 : decode cX12_everyBy 19 = .ok (.istore 4, 2) := by decide +kernel
theorem dX12_everyBy_21 : decode cX12_everyBy 21 = .ok (.iload 4, 2) := by decide +kernel
theorem dX12_everyBy_23 : decode cX12_everyBy 23 = .ok (.iconst (-1), 1) := by decide +kernel
theorem dX12_everyBy_24 : decode cX12_everyBy 24 = .ok (.if_icmp .eq 16, 3) := by decide +kernel
theorem dX12_everyBy_27 : decode cX12_everyBy 27 = .ok (.aload_n 0, 1) := by decide +kernel
theorem dX12_everyBy_28 : decode cX12_everyBy 28 = .ok (.getfield 47, 3) := by decide +kernel
theorem dX12_everyBy_31 : decode cX12_everyBy 31 = .ok (.iload 4, 2) := by decide +kernel
theorem dX12_everyBy_33 : decode cX12_everyBy 33 = .ok (.iaload, 1) := by decide +kernel
theorem dX12_everyBy_34 : decode cX12_everyBy 34 = .ok (.iload_n 2, 1) := by decide +kernel
theorem dX12_everyBy_35 : decode cX12_everyBy 35 = .ok (.if_icmp .lt 5, 3) := by decide +kernel
theorem dX12_everyBy_38 : decode cX12_everyBy 38 = .ok (.iconst 0, 1) := by decide +kernel
theorem dX12_everyBy_39 : decode cX12_everyBy 39 = .ok (.ireturn, 1) := by decide +kernel
theorem dX12_everyBy_40 : decode cX12_everyBy 40 = .ok (.iinc 3 1, 3) := by decide +kernel
theorem dX12_everyBy_43 : decode cX12_everyBy 43 = .ok (.goto (-41), 3) := by decide +kernel
theorem dX12_everyBy_46 : decode cX12_everyBy 46 = .ok (.iconst 1, 1) := by decide +kernel
theorem dX12_everyBy_47 : decode cX12_everyBy 47 = .ok (.ireturn, 1) := by decide +kernel
theorem dX12_laysForced_0 : decode cX12_laysForced 0 = .ok (.aload_n 0, 1) := by decide +kernel
theorem dX12_laysForced_1 : decode cX12_laysForced 1 = .ok (.sipush 511, 3) := by decide +kernel
theorem dX12_laysForced_4 : decode cX12_laysForced 4 = .ok (.invokevirtual 358, 3) := by decide +kernel
theorem dX12_laysForced_7 : decode cX12_laysForced 7 = .ok (.iconst 0, 1) := by decide +kernel
theorem dX12_laysForced_8 : decode cX12_laysForced 8 = .ok (.istore_n 3, 1) := by decide +kernel
theorem dX12_laysForced_9 : decode cX12_laysForced 9 = .ok (.iload_n 3, 1) := by decide +kernel
theorem dX12_laysForced_10 : decode cX12_laysForced 10 = .ok (.ldc 39, 2) := by decide +kernel
theorem dX12_laysForced_12 : decode cX12_laysForced 12 = .ok (.if_icmp .ge 53, 3) := by decide +kernel
theorem dX12_laysForced_15 : decode cX12_laysForced 15 = .ok (.aload_n 0, 1) := by decide +kernel
theorem dX12_laysForced_16 : decode cX12_laysForced 16 = .ok (.getfield 47, 3) := by decide +kernel
theorem dX12_laysForced_19 : decode cX12_laysForced 19 = .ok (.iload_n 3, 1) := by decide +kernel
theorem dX12_laysForced_20 : decode cX12_laysForced 20 = .ok (.aload_n 0, 1) := by decide +kernel
theorem dX12_laysForced_21 : decode cX12_laysForced 21 = .ok (.getfield 40, 3) := by decide +kernel
theorem dX12_laysForced_24 : decode cX12_laysForced 24 = .ok (.iload_n 3, 1) := by decide +kernel
theorem dX12_laysForced_25 : decode cX12_laysForced 25 = .ok (.baload, 1) := by decide +kernel
theorem dX12_laysForced_26 : decode cX12_laysForced 26 = .ok (.ifCond .eq 17, 3) := by decide +kernel
theorem dX12_laysForced_29 : decode cX12_laysForced 29 = .ok (.aload_n 0, 1) := by decide +kernel
theorem dX12_laysForced_30 : decode cX12_laysForced 30 = .ok (.iload_n 3, 1) := by decide +kernel
theorem dX12_laysForced_31 : decode cX12_laysForced 31 = .ok (.iload_n 1, 1) := by decide +kernel
theorem dX12_laysForced_32 : decode cX12_laysForced 32 = .ok (.iload_n 2, 1) := by decide +kernel
theorem dX12_laysForced_33 : decode cX12_laysForced 33 = .ok (.invokevirtual 240, 3) := by decide +kernel
theorem dX12_laysForced_36 : decode cX12_laysForced 36 = .ok (.ifCond .eq 7, 3) := by decide +kernel
theorem dX12_laysForced_39 : decode cX12_laysForced 39 = .ok (.iconst 0, 1) := by decide +kernel
theorem dX12_laysForced_40 : decode cX12_laysForced 40 = .ok (.goto 6, 3) := by decide +kernel
theorem dX12_laysForced_43 : decode cX12_laysForced 43 = .ok (.ldc_w 357, 3) := by decide +kernel
theorem dX12_laysForced_46 : decode cX12_laysForced 46 = .ok (.iastore, 1) := by decide +kernel
theorem dX12_laysForced_47 : decode cX12_laysForced 47 = .ok (.aload_n 0, 1) := by decide +kernel
theorem dX12_laysForced_48 : decode cX12_laysForced 48 = .ok (.getfield 60, 3) := by decide +kernel
theorem dX12_laysForced_51 : decode cX12_laysForced 51 = .ok (.iload_n 3, 1) := by decide +kernel
theorem dX12_laysForced_52 : decode cX12_laysForced 52 = .ok (.aload_n 0, 1) := by decide +kernel
theorem dX12_laysForced_53 : decode cX12_laysForced 53 = .ok (.getfield 47, 3) := by decide +kernel
theorem dX12_laysForced_56 : decode cX12_laysForced 56 = .ok (.iload_n 3, 1) := by decide +kernel
theorem dX12_laysForced_57 : decode cX12_laysForced 57 = .ok (.iaload, 1) := by decide +kernel
theorem dX12_laysForced_58 : decode cX12_laysForced 58 = .ok (.iastore, 1) := by decide +kernel
theorem dX12_laysForced_59 : decode cX12_laysForced 59 = .ok (.iinc 3 1, 3) := by decide +kernel
theorem dX12_laysForced_62 : decode cX12_laysForced 62 = .ok (.goto (-53), 3) := by decide +kernel
theorem dX12_laysForced_65 : decode cX12_laysForced 65 = .ok (.iconst 1, 1) := by decide +kernel
theorem dX12_laysForced_66 : decode cX12_laysForced 66 = .ok (.istore_n 3, 1) := by decide +kernel
theorem dX12_laysForced_67 : decode cX12_laysForced 67 = .ok (.iload_n 3, 1) := by decide +kernel
theorem dX12_laysForced_68 : decode cX12_laysForced 68 = .ok (.bipush 6, 2) := by decide +kernel
theorem dX12_laysForced_70 : decode cX12_laysForced 70 = .ok (.if_icmp .gt 147, 3) := by decide +kernel
theorem dX12_laysForced_73 : decode cX12_laysForced 73 = .ok (.aload_n 0, 1) := by decide +kernel
theorem dX12_laysForced_74 : decode cX12_laysForced 74 = .ok (.invokevirtual 260, 3) := by decide +kernel
theorem dX12_laysForced_77 : decode cX12_laysForced 77 = .ok (.istore 4, 2) := by decide +kernel
theorem dX12_laysForced_79 : decode cX12_laysForced 79 = .ok (.iload 4, 2) := by decide +kernel
theorem dX12_laysForced_81 : decode cX12_laysForced 81 = .ok (.ldc 39, 2) := by decide +kernel
theorem dX12_laysForced_83 : decode cX12_laysForced 83 = .ok (.if_icmp .ge 128, 3) := by decide +kernel
theorem dX12_laysForced_86 : decode cX12_laysForced 86 = .ok (.aload_n 0, 1) := by decide +kernel
theorem dX12_laysForced_87 : decode cX12_laysForced 87 = .ok (.getfield 40, 3) := by decide +kernel
theorem dX12_laysForced_90 : decode cX12_laysForced 90 = .ok (.iload 4, 2) := by decide +kernel
theorem dX12_laysForced_92 : decode cX12_laysForced 92 = .ok (.baload, 1) := by decide +kernel
theorem dX12_laysForced_93 : decode cX12_laysForced 93 = .ok (.ifCond .ne 6, 3) := by decide +kernel
theorem dX12_laysForced_96 : decode cX12_laysForced 96 = .ok (.goto 109, 3) := by decide +kernel
theorem dX12_laysForced_99 : decode cX12_laysForced 99 = .ok (.aload_n 0, 1) := by decide +kernel
theorem dX12_laysForced_100 : decode cX12_laysForced 100 = .ok (.getfield 47, 3) := by decide +kernel
theorem dX12_laysForced_103 : decode cX12_laysForced 103 = .ok (.iload 4, 2) := by decide +kernel
theorem dX12_laysForced_105 : decode cX12_laysForced 105 = .ok (.iaload, 1) := by decide +kernel
theorem dX12_laysForced_106 : decode cX12_laysForced 106 = .ok (.ldc_w 357, 3) := by decide +kernel
theorem dX12_laysForced_109 : decode cX12_laysForced 109 = .ok (.if_icmp .ne 17, 3) := by decide +kernel
theorem dX12_laysForced_112 : decode cX12_laysForced 112 = .ok (.aload_n 0, 1) := by decide +kernel
theorem dX12_laysForced_113 : decode cX12_laysForced 113 = .ok (.iload 4, 2) := by decide +kernel
theorem dX12_laysForced_115 : decode cX12_laysForced 115 = .ok (.iload_n 3, 1) := by decide +kernel
theorem dX12_laysForced_116 : decode cX12_laysForced 116 = .ok (.invokevirtual 425, 3) := by decide +kernel
theorem dX12_laysForced_119 : decode cX12_laysForced 119 = .ok (.ifCond .eq 7, 3) := by decide +kernel
theorem dX12_laysForced_122 : decode cX12_laysForced 122 = .ok (.iconst 1, 1) := by decide +kernel
theorem dX12_laysForced_123 : decode cX12_laysForced 123 = .ok (.goto 4, 3) := by decide +kernel
theorem dX12_laysForced_126 : decode cX12_laysForced 126 = .ok (.iconst 0, 1) := by decide +kernel
theorem dX12_laysForced_127 : decode cX12_laysForced 127 = .ok (.istore 5, 2) := by decide +kernel
theorem dX12_laysForced_129 : decode cX12_laysForced 129 = .ok (.aload_n 0, 1) := by decide +kernel
theorem dX12_laysForced_130 : decode cX12_laysForced 130 = .ok (.getfield 60, 3) := by decide +kernel
theorem dX12_laysForced_133 : decode cX12_laysForced 133 = .ok (.iload 4, 2) := by decide +kernel
theorem dX12_laysForced_135 : decode cX12_laysForced 135 = .ok (.iaload, 1) := by decide +kernel
theorem dX12_laysForced_136 : decode cX12_laysForced 136 = .ok (.ldc_w 357, 3) := by decide +kernel
theorem dX12_laysForced_139 : decode cX12_laysForced 139 = .ok (.if_icmp .ne 17, 3) := by decide +kernel
theorem dX12_laysForced_142 : decode cX12_laysForced 142 = .ok (.aload_n 0, 1) := by decide +kernel
theorem dX12_laysForced_143 : decode cX12_laysForced 143 = .ok (.iload 4, 2) := by decide +kernel
theorem dX12_laysForced_145 : decode cX12_laysForced 145 = .ok (.iload_n 3, 1) := by decide +kernel
theorem dX12_laysForced_146 : decode cX12_laysForced 146 = .ok (.invokevirtual 428, 3) := by decide +kernel
theorem dX12_laysForced_149 : decode cX12_laysForced 149 = .ok (.ifCond .eq 7, 3) := by decide +kernel
theorem dX12_laysForced_152 : decode cX12_laysForced 152 = .ok (.iconst 1, 1) := by decide +kernel
theorem dX12_laysForced_153 : decode cX12_laysForced 153 = .ok (.goto 4, 3) := by decide +kernel
theorem dX12_laysForced_156 : decode cX12_laysForced 156 = .ok (.iconst 0, 1) := by decide +kernel
theorem dX12_laysForced_157 : decode cX12_laysForced 157 = .ok (.istore 6, 2) := by decide +kernel
theorem dX12_laysForced_159 : decode cX12_laysForced 159 = .ok (.aload_n 0, 1) := by decide +kernel
theorem dX12_laysForced_160 : decode cX12_laysForced 160 = .ok (.getfield 47, 3) := by decide +kernel
theorem dX12_laysForced_163 : decode cX12_laysForced 163 = .ok (.iload 4, 2) := by decide +kernel
theorem dX12_laysForced_165 : decode cX12_laysForced 165 = .ok (.iload 5, 2) := by decide +kernel
theorem dX12_laysForced_167 : decode cX12_laysForced 167 = .ok (.ifCond .eq 7, 3) := by decide +kernel
theorem dX12_laysForced_170 : decode cX12_laysForced 170 = .ok (.iload_n 3, 1) := by decide +kernel
theorem dX12_laysForced_171 : decode cX12_laysForced 171 = .ok (.goto 10, 3) := by decide +kernel
theorem dX12_laysForced_174 : decode cX12_laysForced 174 = .ok (.aload_n 0, 1) := by decide +kernel
theorem dX12_laysForced_175 : decode cX12_laysForced 175 = .ok (.getfield 47, 3) := by decide +kernel
theorem dX12_laysForced_178 : decode cX12_laysForced 178 = .ok (.iload 4, 2) := by decide +kernel
theorem dX12_laysForced_180 : decode cX12_laysForced 180 = .ok (.iaload, 1) := by decide +kernel
theorem dX12_laysForced_181 : decode cX12_laysForced 181 = .ok (.iastore, 1) := by decide +kernel
theorem dX12_laysForced_182 : decode cX12_laysForced 182 = .ok (.aload_n 0, 1) := by decide +kernel
theorem dX12_laysForced_183 : decode cX12_laysForced 183 = .ok (.getfield 60, 3) := by decide +kernel
theorem dX12_laysForced_186 : decode cX12_laysForced 186 = .ok (.iload 4, 2) := by decide +kernel
theorem dX12_laysForced_188 : decode cX12_laysForced 188 = .ok (.iload 6, 2) := by decide +kernel
theorem dX12_laysForced_190 : decode cX12_laysForced 190 = .ok (.ifCond .eq 7, 3) := by decide +kernel
theorem dX12_laysForced_193 : decode cX12_laysForced 193 = .ok (.iload_n 3, 1) := by decide +kernel
theorem dX12_laysForced_194 : decode cX12_laysForced 194 = .ok (.goto 10, 3) := by decide +kernel
theorem dX12_laysForced_197 : decode cX12_laysForced 197 = .ok (.aload_n 0, 1) := by decide +kernel
theorem dX12_laysForced_198 : decode cX12_laysForced 198 = .ok (.getfield 60, 3) := by decide +kernel
theorem dX12_laysForced_201 : decode cX12_laysForced 201 = .ok (.iload 4, 2) := by decide +kernel
theorem dX12_laysForced_203 : decode cX12_laysForced 203 = .ok (.iaload, 1) := by decide +kernel
theorem dX12_laysForced_204 : decode cX12_laysForced 204 = .ok (.iastore, 1) := by decide +kernel
theorem dX12_laysForced_205 : decode cX12_laysForced 205 = .ok (.iinc 4 1, 3) := by decide +kernel
theorem dX12_laysForced_208 : decode cX12_laysForced 208 = .ok (.goto (-129), 3) := by decide +kernel
theorem dX12_laysForced_211 : decode cX12_laysForced 211 = .ok (.iinc 3 1, 3) := by decide +kernel
theorem dX12_laysForced_214 : decode cX12_laysForced 214 = .ok (.goto (-147), 3) := by decide +kernel
theorem dX12_laysForced_217 : decode cX12_laysForced 217 = .ok (.aload_n 0, 1) := by decide +kernel
theorem dX12_laysForced_218 : decode cX12_laysForced 218 = .ok (.getfield 47, 3) := by decide +kernel
theorem dX12_laysForced_221 : decode cX12_laysForced 221 = .ok (.aload_n 0, 1) := by decide +kernel
theorem dX12_laysForced_222 : decode cX12_laysForced 222 = .ok (.invokevirtual 260, 3) := by decide +kernel
theorem dX12_laysForced_225 : decode cX12_laysForced 225 = .ok (.iaload, 1) := by decide +kernel
theorem dX12_laysForced_226 : decode cX12_laysForced 226 = .ok (.ireturn, 1) := by decide +kernel
theorem dX12_forces_0 : decode cX12_forces 0 = .ok (.aload_n 0, 1) := by decide +kernel
theorem dX12_forces_1 : decode cX12_forces 1 = .ok (.iconst 0, 1) := by decide +kernel
theorem dX12_forces_2 : decode cX12_forces 2 = .ok (.putfield 1, 3) := by decide +kernel
theorem dX12_forces_5 : decode cX12_forces 5 = .ok (.iload_n 1, 1) := by decide +kernel
theorem dX12_forces_6 : decode cX12_forces 6 = .ok (.i2l, 1) := by decide +kernel
theorem dX12_forces_7 : decode cX12_forces 7 = .ok (.invokestatic 250, 3) := by decide +kernel
theorem dX12_forces_10 : decode cX12_forces 10 = .ok (.ifCond .eq 23, 3) := by decide +kernel
theorem dX12_forces_13 : decode cX12_forces 13 = .ok (.aload_n 0, 1) := by decide +kernel
theorem dX12_forces_14 : decode cX12_forces 14 = .ok (.iload_n 2, 1) := by decide +kernel
theorem dX12_forces_15 : decode cX12_forces 15 = .ok (.invokevirtual 257, 3) := by decide +kernel
theorem dX12_forces_18 : decode cX12_forces 18 = .ok (.ifCond .eq 15, 3) := by decide +kernel
theorem dX12_forces_21 : decode cX12_forces 21 = .ok (.aload_n 0, 1) := by decide +kernel
theorem dX12_forces_22 : decode cX12_forces 22 = .ok (.iload_n 1, 1) := by decide +kernel
theorem dX12_forces_23 : decode cX12_forces 23 = .ok (.iload_n 2, 1) := by decide +kernel
theorem dX12_forces_24 : decode cX12_forces 24 = .ok (.invokevirtual 431, 3) := by decide +kernel
theorem dX12_forces_27 : decode cX12_forces 27 = .ok (.invokestatic 387, 3) := by decide +kernel
theorem dX12_forces_30 : decode cX12_forces 30 = .ok (.goto 5, 3) := by decide +kernel
theorem dX12_forces_33 : decode cX12_forces 33 = .ok (.bipush (-2), 2) := by decide +kernel
theorem dX12_forces_35 : decode cX12_forces 35 = .ok (.ireturn, 1) := by decide +kernel
theorem dX12_best_0 : decode cX12_best 0 = .ok (.aload_n 0, 1) := by decide +kernel
theorem dX12_best_1 : decode cX12_best 1 = .ok (.iconst 0, 1) := by decide +kernel
theorem dX12_best_2 : decode cX12_best 2 = .ok (.putfield 1, 3) := by decide +kernel
theorem dX12_best_5 : decode cX12_best 5 = .ok (.iload_n 1, 1) := by decide +kernel
theorem dX12_best_6 : decode cX12_best 6 = .ok (.i2l, 1) := by decide +kernel
theorem dX12_best_7 : decode cX12_best 7 = .ok (.invokestatic 250, 3) := by decide +kernel
theorem dX12_best_10 : decode cX12_best 10 = .ok (.ifCond .eq 11, 3) := by decide +kernel
theorem dX12_best_13 : decode cX12_best 13 = .ok (.aload_n 0, 1) := by decide +kernel
theorem dX12_best_14 : decode cX12_best 14 = .ok (.iload_n 2, 1) := by decide +kernel
theorem dX12_best_15 : decode cX12_best 15 = .ok (.invokevirtual 257, 3) := by decide +kernel
theorem dX12_best_18 : decode cX12_best 18 = .ok (.ifCond .ne 6, 3) := by decide +kernel
theorem dX12_best_21 : decode cX12_best 21 = .ok (.bipush (-2), 2) := by decide +kernel
theorem dX12_best_23 : decode cX12_best 23 = .ok (.ireturn, 1) := by decide +kernel
theorem dX12_best_24 : decode cX12_best 24 = .ok (.aload_n 0, 1) := by decide +kernel
theorem dX12_best_25 : decode cX12_best 25 = .ok (.iload_n 1, 1) := by decide +kernel
theorem dX12_best_26 : decode cX12_best 26 = .ok (.iload_n 2, 1) := by decide +kernel
theorem dX12_best_27 : decode cX12_best 27 = .ok (.invokevirtual 431, 3) := by decide +kernel
theorem dX12_best_30 : decode cX12_best 30 = .ok (.istore_n 3, 1) := by decide +kernel
theorem dX12_best_31 : decode cX12_best 31 = .ok (.iconst 0, 1) := by decide +kernel
theorem dX12_best_32 : decode cX12_best 32 = .ok (.istore 4, 2) := by decide +kernel
theorem dX12_best_34 : decode cX12_best 34 = .ok (.iload 4, 2) := by decide +kernel
theorem dX12_best_36 : decode cX12_best 36 = .ok (.bipush 9, 2) := by decide +kernel
theorem dX12_best_38 : decode cX12_best 38 = .ok (.if_icmp .ge 62, 3) := by decide +kernel
theorem dX12_best_41 : decode cX12_best 41 = .ok (.iload_n 3, 1) := by decide +kernel
theorem dX12_best_42 : decode cX12_best 42 = .ok (.ifCond .le 58, 3) := by decide +kernel
theorem dX12_best_45 : decode cX12_best 45 = .ok (.iload_n 3, 1) := by decide +kernel
theorem dX12_best_46 : decode cX12_best 46 = .ok (.ldc_w 357, 3) := by decide +kernel
theorem dX12_best_49 : decode cX12_best 49 = .ok (.if_icmp .ge 51, 3) := by decide +kernel
theorem dX12_best_52 : decode cX12_best 52 = .ok (.aload_n 0, 1) := by decide +kernel
theorem dX12_best_53 : decode cX12_best 53 = .ok (.getfield 44, 3) := by decide +kernel
theorem dX12_best_56 : decode cX12_best 56 = .ok (.bipush 9, 2) := by decide +kernel
theorem dX12_best_58 : decode cX12_best 58 = .ok (.aload_n 0, 1) := by decide +kernel
theorem dX12_best_59 : decode cX12_best 59 = .ok (.invokevirtual 260, 3) := by decide +kernel
theorem dX12_best_62 : decode cX12_best 62 = .ok (.imul, 1) := by decide +kernel
theorem dX12_best_63 : decode cX12_best 63 = .ok (.iload 4, 2) := by decide +kernel
theorem dX12_best_65 : decode cX12_best 65 = .ok (.iadd, 1) := by decide +kernel
theorem dX12_best_66 : decode cX12_best 66 = .ok (.iaload, 1) := by decide +kernel
theorem dX12_best_67 : decode cX12_best 67 = .ok (.istore 5, 2) := by decide +kernel
theorem dX12_best_69 : decode cX12_best 69 = .ok (.iload 5, 2) := by decide +kernel
theorem dX12_best_71 : decode cX12_best 71 = .ok (.iconst (-1), 1) := by decide +kernel
theorem dX12_best_72 : decode cX12_best 72 = .ok (.if_icmp .eq 22, 3) := by decide +kernel
theorem dX12_best_75 : decode cX12_best 75 = .ok (.aload_n 0, 1) := by decide +kernel
theorem dX12_best_76 : decode cX12_best 76 = .ok (.getfield 60, 3) := by decide +kernel
theorem dX12_best_79 : decode cX12_best 79 = .ok (.iload 5, 2) := by decide +kernel
theorem dX12_best_81 : decode cX12_best 81 = .ok (.iaload, 1) := by decide +kernel
theorem dX12_best_82 : decode cX12_best 82 = .ok (.iload_n 3, 1) := by decide +kernel
theorem dX12_best_83 : decode cX12_best 83 = .ok (.iconst 1, 1) := by decide +kernel
theorem dX12_best_84 : decode cX12_best 84 = .ok (.isub, 1) := by decide +kernel
theorem dX12_best_85 : decode cX12_best 85 = .ok (.if_icmp .ne 9, 3) := by decide +kernel
theorem dX12_best_88 : decode cX12_best 88 = .ok (.iload 4, 2) := by decide +kernel
theorem dX12_best_90 : decode cX12_best 90 = .ok (.invokestatic 369, 3) := by decide +kernel
theorem dX12_best_93 : decode cX12_best 93 = .ok (.ireturn, 1) := by decide +kernel
theorem dX12_best_94 : decode cX12_best 94 = .ok (.iinc 4 1, 3) := by decide +kernel
theorem dX12_best_97 : decode cX12_best 97 = .ok (.goto (-63), 3) := by decide +kernel
theorem dX12_best_100 : decode cX12_best 100 = .ok (.iconst (-1), 1) := by decide +kernel
theorem dX12_best_101 : decode cX12_best 101 = .ok (.ireturn, 1) := by decide +kernel
theorem dX12_likelyFrom_0 : decode cX12_likelyFrom 0 = .ok (.iload 4, 2) := by decide +kernel
theorem dX12_likelyFrom_2 : decode cX12_likelyFrom 2 = .ok (.ifCond .ne 19, 3) := by decide +kernel
theorem dX12_likelyFrom_5 : decode cX12_likelyFrom 5 = .ok (.aload_n 0, 1) := by decide +kernel
theorem dX12_likelyFrom_6 : decode cX12_likelyFrom 6 = .ok (.iload_n 1, 1) := by decide +kernel
theorem dX12_likelyFrom_7 : decode cX12_likelyFrom 7 = .ok (.iload_n 2, 1) := by decide +kernel
theorem dX12_likelyFrom_8 : decode cX12_likelyFrom 8 = .ok (.iload_n 3, 1) := by decide +kernel
theorem dX12_likelyFrom_9 : decode cX12_likelyFrom 9 = .ok (.invokevirtual 240, 3) := by decide +kernel
theorem dX12_likelyFrom_12 : decode cX12_likelyFrom 12 = .ok (.ifCond .eq 7, 3) := by decide +kernel
theorem dX12_likelyFrom_15 : decode cX12_likelyFrom 15 = .ok (.iconst 1, 1) := by decide +kernel
theorem dX12_likelyFrom_16 : decode cX12_likelyFrom 16 = .ok (.goto 4, 3) := by decide +kernel
theorem dX12_likelyFrom_19 : decode cX12_likelyFrom 19 = .ok (.iconst 0, 1) := by decide +kernel
theorem dX12_likelyFrom_20 : decode cX12_likelyFrom 20 = .ok (.ireturn, 1) := by decide +kernel
theorem dX12_likelyFrom_21 : decode cX12_likelyFrom 21 = .ok (.aload_n 0, 1) := by decide +kernel
theorem dX12_likelyFrom_22 : decode cX12_likelyFrom 22 = .ok (.getfield 13, 3) := by decide +kernel
theorem dX12_likelyFrom_25 : decode cX12_likelyFrom 25 = .ok (.iconst 1, 1) := by decide +kernel
theorem dX12_likelyFrom_26 : decode cX12_likelyFrom 26 = .ok (.iaload, 1) := by decide +kernel
theorem dX12_likelyFrom_27 : decode cX12_likelyFrom 27 = .ok (.ifCond .ne 18, 3) := by decide +kernel
theorem dX12_likelyFrom_30 : decode cX12_likelyFrom 30 = .ok (.aload_n 0, 1) := by decide +kernel
theorem dX12_likelyFrom_31 : decode cX12_likelyFrom 31 = .ok (.iload_n 1, 1) := by decide +kernel
theorem dX12_likelyFrom_32 : decode cX12_likelyFrom 32 = .ok (.invokestatic 284, 3) := by decide +kernel
theorem dX12_likelyFrom_35 : decode cX12_likelyFrom 35 = .ok (.iload_n 2, 1) := by decide +kernel
theorem dX12_likelyFrom_36 : decode cX12_likelyFrom 36 = .ok (.iload_n 3, 1) := by decide +kernel
theorem dX12_likelyFrom_37 : decode cX12_likelyFrom 37 = .ok (.iload 4, 2) := by decide +kernel
theorem dX12_likelyFrom_39 : decode cX12_likelyFrom 39 = .ok (.iconst 1, 1) := by decide +kernel
theorem dX12_likelyFrom_40 : decode cX12_likelyFrom 40 = .ok (.isub, 1) := by decide +kernel
theorem dX12_likelyFrom_41 : decode cX12_likelyFrom 41 = .ok (.invokevirtual 434, 3) := by decide +kernel
theorem dX12_likelyFrom_44 : decode cX12_likelyFrom 44 = .ok (.ireturn, 1) := by decide +kernel
theorem dX12_likelyFrom_45 : decode cX12_likelyFrom 45 = .ok (.iconst 0, 1) := by decide +kernel
theorem dX12_likelyFrom_46 : decode cX12_likelyFrom 46 = .ok (.istore 5, 2) := by decide +kernel
theorem dX12_likelyFrom_48 : decode cX12_likelyFrom 48 = .ok (.iconst 0, 1) := by decide +kernel
theorem dX12_likelyFrom_49 : decode cX12_likelyFrom 49 = .ok (.istore 6, 2) := by decide +kernel
theorem dX12_likelyFrom_51 : decode cX12_likelyFrom 51 = .ok (.iload 6, 2) := by decide +kernel
theorem dX12_likelyFrom_53 : decode cX12_likelyFrom 53 = .ok (.iconst 2, 1) := by decide +kernel
theorem dX12_likelyFrom_54 : decode cX12_likelyFrom 54 = .ok (.if_icmp .ge 72, 3) := by decide +kernel
theorem dX12_likelyFrom_57 : decode cX12_likelyFrom 57 = .ok (.iconst 0, 1) := by decide +kernel
theorem dX12_likelyFrom_58 : decode cX12_likelyFrom 58 = .ok (.istore 7, 2) := by decide +kernel
theorem dX12_likelyFrom_60 : decode cX12_likelyFrom 60 = .ok (.iload 7, 2) := by decide +kernel
theorem dX12_likelyFrom_62 : decode cX12_likelyFrom 62 = .ok (.aload_n 0, 1) := by decide +kernel
theorem dX12_likelyFrom_63 : decode cX12_likelyFrom 63 = .ok (.getfield 13, 3) := by decide +kernel
theorem dX12_likelyFrom_66 : decode cX12_likelyFrom 66 = .ok (.iconst 1, 1) := by decide +kernel
theorem dX12_likelyFrom_67 : decode cX12_likelyFrom 67 = .ok (.iaload, 1) := by decide +kernel
theorem dX12_likelyFrom_68 : decode cX12_likelyFrom 68 = .ok (.if_icmp .ge 52, 3) := by decide +kernel
theorem dX12_likelyFrom_71 : decode cX12_likelyFrom 71 = .ok (.iload 5, 2) := by decide +kernel
theorem dX12_likelyFrom_73 : decode cX12_likelyFrom 73 = .ok (.aload_n 0, 1) := by decide +kernel
theorem dX12_likelyFrom_74 : decode cX12_likelyFrom 74 = .ok (.aload_n 0, 1) := by decide +kernel
theorem dX12_likelyFrom_75 : decode cX12_likelyFrom 75 = .ok (.iload_n 1, 1) := by decide +kernel
theorem dX12_likelyFrom_76 : decode cX12_likelyFrom 76 = .ok (.iload 6, 2) := by decide +kernel
theorem dX12_likelyFrom_78 : decode cX12_likelyFrom 78 = .ok (.iload 7, 2) := by decide +kernel
theorem dX12_likelyFrom_80 : decode cX12_likelyFrom 80 = .ok (.invokevirtual 263, 3) := by decide +kernel
theorem dX12_likelyFrom_83 : decode cX12_likelyFrom 83 = .ok (.ifCond .eq 15, 3) := by decide +kernel
theorem dX12_likelyFrom_86 : decode cX12_likelyFrom 86 = .ok (.aload_n 0, 1) := by decide +kernel
theorem dX12_likelyFrom_87 : decode cX12_likelyFrom 87 = .ok (.iload_n 1, 1) := by decide +kernel
theorem dX12_likelyFrom_88 : decode cX12_likelyFrom 88 = .ok (.iload 6, 2) := by decide +kernel
theorem dX12_likelyFrom_90 : decode cX12_likelyFrom 90 = .ok (.iload 7, 2) := by decide +kernel
theorem dX12_likelyFrom_92 : decode cX12_likelyFrom 92 = .ok (.invokevirtual 266, 3) := by decide +kernel
theorem dX12_likelyFrom_95 : decode cX12_likelyFrom 95 = .ok (.goto 4, 3) := by decide +kernel
theorem dX12_likelyFrom_98 : decode cX12_likelyFrom 98 = .ok (.iload_n 1, 1) := by decide +kernel
theorem dX12_likelyFrom_99 : decode cX12_likelyFrom 99 = .ok (.invokestatic 284, 3) := by decide +kernel
theorem dX12_likelyFrom_102 : decode cX12_likelyFrom 102 = .ok (.iload_n 2, 1) := by decide +kernel
theorem dX12_likelyFrom_103 : decode cX12_likelyFrom 103 = .ok (.iload_n 3, 1) := by decide +kernel
theorem dX12_likelyFrom_104 : decode cX12_likelyFrom 104 = .ok (.iload 4, 2) := by decide +kernel
theorem dX12_likelyFrom_106 : decode cX12_likelyFrom 106 = .ok (.iconst 1, 1) := by decide +kernel
theorem dX12_likelyFrom_107 : decode cX12_likelyFrom 107 = .ok (.isub, 1) := by decide +kernel
theorem dX12_likelyFrom_108 : decode cX12_likelyFrom 108 = .ok (.invokevirtual 434, 3) := by decide +kernel
theorem dX12_likelyFrom_111 : decode cX12_likelyFrom 111 = .ok (.iadd, 1) := by decide +kernel
theorem dX12_likelyFrom_112 : decode cX12_likelyFrom 112 = .ok (.istore 5, 2) := by decide +kernel
theorem dX12_likelyFrom_114 : decode cX12_likelyFrom 114 = .ok (.iinc 7 1, 3) := by decide +kernel
theorem dX12_likelyFrom_117 : decode cX12_likelyFrom 117 = .ok (.goto (-57), 3) := by decide +kernel
theorem dX12_likelyFrom_120 : decode cX12_likelyFrom 120 = .ok (.iinc 6 1, 3) := by decide +kernel
theorem dX12_likelyFrom_123 : decode cX12_likelyFrom 123 = .ok (.goto (-72), 3) := by decide +kernel
theorem dX12_likelyFrom_126 : decode cX12_likelyFrom 126 = .ok (.iload 5, 2) := by decide +kernel
theorem dX12_likelyFrom_128 : decode cX12_likelyFrom 128 = .ok (.ireturn, 1) := by decide +kernel
theorem dX12_common_0 : decode cX12_common 0 = .ok (.iload_n 1, 1) := by decide +kernel
theorem dX12_common_1 : decode cX12_common 1 = .ok (.ifCond .ne 7, 3) := by decide +kernel
theorem dX12_common_4 : decode cX12_common 4 = .ok (.iload_n 0, 1) := by decide +kernel
theorem dX12_common_5 : decode cX12_common 5 = .ok (.goto 10, 3) := by decide +kernel
theorem dX12_common_8 : decode cX12_common 8 = .ok (.iload_n 1, 1) := by decide +kernel
theorem dX12_common_9 : decode cX12_common 9 = .ok (.iload_n 0, 1) := by decide +kernel
theorem dX12_common_10 : decode cX12_common 10 = .ok (.iload_n 1, 1) := by decide +kernel
theorem dX12_common_11 : decode cX12_common 11 = .ok (.irem, 1) := by decide +kernel
theorem dX12_common_12 : decode cX12_common 12 = .ok (.invokestatic 437, 3) := by decide +kernel
theorem dX12_common_15 : decode cX12_common 15 = .ok (.ireturn, 1) := by decide +kernel
theorem dX12_chance_0 : decode cX12_chance 0 = .ok (.aload_n 0, 1) := by decide +kernel
theorem dX12_chance_1 : decode cX12_chance 1 = .ok (.iconst 0, 1) := by decide +kernel
theorem dX12_chance_2 : decode cX12_chance 2 = .ok (.putfield 1, 3) := by decide +kernel
theorem dX12_chance_5 : decode cX12_chance 5 = .ok (.iload_n 1, 1) := by decide +kernel
theorem dX12_chance_6 : decode cX12_chance 6 = .ok (.i2l, 1) := by decide +kernel
theorem dX12_chance_7 : decode cX12_chance 7 = .ok (.invokestatic 250, 3) := by decide +kernel
theorem dX12_chance_10 : decode cX12_chance 10 = .ok (.ifCond .eq 20, 3) := by decide +kernel
theorem dX12_chance_13 : decode cX12_chance 13 = .ok (.aload_n 0, 1) := by decide +kernel
theorem dX12_chance_14 : decode cX12_chance 14 = .ok (.iload_n 2, 1) := by decide +kernel
theorem dX12_chance_15 : decode cX12_chance 15 = .ok (.invokevirtual 257, 3) := by decide +kernel
theorem dX12_chance_18 : decode cX12_chance 18 = .ok (.ifCond .eq 12, 3) := by decide +kernel
theorem dX12_chance_21 : decode cX12_chance 21 = .ok (.iload 4, 2) := by decide +kernel
theorem dX12_chance_23 : decode cX12_chance 23 = .ok (.i2l, 1) := by decide +kernel
theorem dX12_chance_24 : decode cX12_chance 24 = .ok (.invokestatic 250, 3) := by decide +kernel
theorem dX12_chance_27 : decode cX12_chance 27 = .ok (.ifCond .ne 6, 3) := by decide +kernel
theorem dX12_chance_30 : decode cX12_chance 30 = .ok (.bipush (-2), 2) := by decide +kernel
theorem dX12_chance_32 : decode cX12_chance 32 = .ok (.ireturn, 1) := by decide +kernel
theorem dX12_chance_33 : decode cX12_chance 33 = .ok (.iload_n 3, 1) := by decide +kernel
theorem dX12_chance_34 : decode cX12_chance 34 = .ok (.i2l, 1) := by decide +kernel
theorem dX12_chance_35 : decode cX12_chance 35 = .ok (.lconst 0, 1) := by decide +kernel
theorem dX12_chance_36 : decode cX12_chance 36 = .ok (.ldc2_w 440, 3) := by decide +kernel
theorem dX12_chance_39 : decode cX12_chance 39 = .ok (.invokestatic 138, 3) := by decide +kernel
theorem dX12_chance_42 : decode cX12_chance 42 = .ok (.ifCond .ne 6, 3) := by decide +kernel
theorem dX12_chance_45 : decode cX12_chance 45 = .ok (.bipush (-3), 2) := by decide +kernel
theorem dX12_chance_47 : decode cX12_chance 47 = .ok (.ireturn, 1) := by decide +kernel
theorem dX12_chance_48 : decode cX12_chance 48 = .ok (.iconst 1, 1) := by decide +kernel
theorem dX12_chance_49 : decode cX12_chance 49 = .ok (.istore 5, 2) := by decide +kernel
theorem dX12_chance_51 : decode cX12_chance 51 = .ok (.iconst 0, 1) := by decide +kernel
theorem dX12_chance_52 : decode cX12_chance 52 = .ok (.istore 6, 2) := by decide +kernel
theorem dX12_chance_54 : decode cX12_chance 54 = .ok (.iload 6, 2) := by decide +kernel
theorem dX12_chance_56 : decode cX12_chance 56 = .ok (.iload_n 3, 1) := by decide +kernel
theorem dX12_chance_57 : decode cX12_chance 57 = .ok (.if_icmp .ge 31, 3) := by decide +kernel
theorem dX12_chance_60 : decode cX12_chance 60 = .ok (.aload_n 0, 1) := by decide +kernel
theorem dX12_chance_61 : decode cX12_chance 61 = .ok (.getfield 13, 3) := by decide +kernel
theorem dX12_chance_64 : decode cX12_chance 64 = .ok (.iconst 1, 1) := by decide +kernel
theorem dX12_chance_65 : decode cX12_chance 65 = .ok (.iaload, 1) := by decide +kernel
theorem dX12_chance_66 : decode cX12_chance 66 = .ok (.ifCond .le 22, 3) := by decide +kernel
theorem dX12_chance_69 : decode cX12_chance 69 = .ok (.iload 5, 2) := by decide +kernel
theorem dX12_chance_71 : decode cX12_chance 71 = .ok (.iconst 2, 1) := by decide +kernel
theorem dX12_chance_72 : decode cX12_chance 72 = .ok (.aload_n 0, 1) := by decide +kernel
theorem dX12_chance_73 : decode cX12_chance 73 = .ok (.getfield 13, 3) := by decide +kernel
theorem dX12_chance_76 : decode cX12_chance 76 = .ok (.iconst 1, 1) := by decide +kernel
theorem dX12_chance_77 : decode cX12_chance 77 = .ok (.iaload, 1) := by decide +kernel
theorem dX12_chance_78 : decode cX12_chance 78 = .ok (.imul, 1) := by decide +kernel
theorem dX12_chance_79 : decode cX12_chance 79 = .ok (.imul, 1) := by decide +kernel
theorem dX12_chance_80 : decode cX12_chance 80 = .ok (.istore 5, 2) := by decide +kernel
theorem dX12_chance_82 : decode cX12_chance 82 = .ok (.iinc 6 1, 3) := by decide +kernel
theorem dX12_chance_85 : decode cX12_chance 85 = .ok (.goto (-31), 3) := by decide +kernel
theorem dX12_chance_88 : decode cX12_chance 88 = .ok (.aload_n 0, 1) := by decide +kernel
theorem dX12_chance_89 : decode cX12_chance 89 = .ok (.aload_n 0, 1) := by decide +kernel
theorem dX12_chance_90 : decode cX12_chance 90 = .ok (.invokevirtual 260, 3) := by decide +kernel
theorem dX12_chance_93 : decode cX12_chance 93 = .ok (.iload_n 1, 1) := by decide +kernel
theorem dX12_chance_94 : decode cX12_chance 94 = .ok (.iload_n 2, 1) := by decide +kernel
theorem dX12_chance_95 : decode cX12_chance 95 = .ok (.iload_n 3, 1) := by decide +kernel
theorem dX12_chance_96 : decode cX12_chance 96 = .ok (.invokevirtual 434, 3) := by decide +kernel
theorem dX12_chance_99 : decode cX12_chance 99 = .ok (.istore 6, 2) := by decide +kernel
theorem dX12_chance_101 : decode cX12_chance 101 = .ok (.iload 4, 2) := by decide +kernel
theorem dX12_chance_103 : decode cX12_chance 103 = .ok (.ifCond .ne 8, 3) := by decide +kernel
theorem dX12_chance_106 : decode cX12_chance 106 = .ok (.iload 6, 2) := by decide +kernel
theorem dX12_chance_108 : decode cX12_chance 108 = .ok (.goto 5, 3) := by decide +kernel
theorem dX12_chance_111 : decode cX12_chance 111 = .ok (.iload 5, 2) := by decide +kernel
theorem dX12_chance_113 : decode cX12_chance 113 = .ok (.iload 6, 2) := by decide +kernel
theorem dX12_chance_115 : decode cX12_chance 115 = .ok (.iload 5, 2) := by decide +kernel
theorem dX12_chance_117 : decode cX12_chance 117 = .ok (.invokestatic 437, 3) := by decide +kernel
theorem dX12_chance_120 : decode cX12_chance 120 = .ok (.idiv, 1) := by decide +kernel
theorem dX12_chance_121 : decode cX12_chance 121 = .ok (.ireturn, 1) := by decide +kernel
theorem dX12_likeliest_0 : decode cX12_likeliest 0 = .ok (.aload_n 0, 1) := by decide +kernel
theorem dX12_likeliest_1 : decode cX12_likeliest 1 = .ok (.iconst 0, 1) := by decide +kernel
theorem dX12_likeliest_2 : decode cX12_likeliest 2 = .ok (.putfield 1, 3) := by decide +kernel
theorem dX12_likeliest_5 : decode cX12_likeliest 5 = .ok (.iload_n 1, 1) := by decide +kernel
theorem dX12_likeliest_6 : decode cX12_likeliest 6 = .ok (.i2l, 1) := by decide +kernel
theorem dX12_likeliest_7 : decode cX12_likeliest 7 = .ok (.invokestatic 250, 3) := by decide +kernel
theorem dX12_likeliest_10 : decode cX12_likeliest 10 = .ok (.ifCond .ne 6, 3) := by decide +kernel
theorem dX12_likeliest_13 : decode cX12_likeliest 13 = .ok (.bipush (-2), 2) := by decide +kernel
theorem dX12_likeliest_15 : decode cX12_likeliest 15 = .ok (.ireturn, 1) := by decide +kernel
theorem dX12_likeliest_16 : decode cX12_likeliest 16 = .ok (.iload_n 2, 1) := by decide +kernel
theorem dX12_likeliest_17 : decode cX12_likeliest 17 = .ok (.i2l, 1) := by decide +kernel
theorem dX12_likeliest_18 : decode cX12_likeliest 18 = .ok (.lconst 0, 1) := by decide +kernel
theorem dX12_likeliest_19 : decode cX12_likeliest 19 = .ok (.ldc2_w 440, 3) := by decide +kernel
theorem dX12_likeliest_22 : decode cX12_likeliest 22 = .ok (.invokestatic 138, 3) := by decide +kernel
theorem dX12_likeliest_25 : decode cX12_likeliest 25 = .ok (.ifCond .ne 6, 3) := by decide +kernel
theorem dX12_likeliest_28 : decode cX12_likeliest 28 = .ok (.bipush (-3), 2) := by decide +kernel
theorem dX12_likeliest_30 : decode cX12_likeliest 30 = .ok (.ireturn, 1) := by decide +kernel
theorem dX12_likeliest_31 : decode cX12_likeliest 31 = .ok (.iconst (-1), 1) := by decide +kernel
theorem dX12_likeliest_32 : decode cX12_likeliest 32 = .ok (.istore_n 3, 1) := by decide +kernel
theorem dX12_likeliest_33 : decode cX12_likeliest 33 = .ok (.iconst (-1), 1) := by decide +kernel
theorem dX12_likeliest_34 : decode cX12_likeliest 34 = .ok (.istore 4, 2) := by decide +kernel
theorem dX12_likeliest_36 : decode cX12_likeliest 36 = .ok (.iconst 0, 1) := by decide +kernel
theorem dX12_likeliest_37 : decode cX12_likeliest 37 = .ok (.istore 5, 2) := by decide +kernel
theorem dX12_likeliest_39 : decode cX12_likeliest 39 = .ok (.iload 5, 2) := by decide +kernel
theorem dX12_likeliest_41 : decode cX12_likeliest 41 = .ok (.aload_n 0, 1) := by decide +kernel
theorem dX12_likeliest_42 : decode cX12_likeliest 42 = .ok (.getfield 13, 3) := by decide +kernel
theorem dX12_likeliest_45 : decode cX12_likeliest 45 = .ok (.iconst 2, 1) := by decide +kernel
theorem dX12_likeliest_46 : decode cX12_likeliest 46 = .ok (.iaload, 1) := by decide +kernel
theorem dX12_likeliest_47 : decode cX12_likeliest 47 = .ok (.if_icmp .ge 40, 3) := by decide +kernel
theorem dX12_likeliest_50 : decode cX12_likeliest 50 = .ok (.aload_n 0, 1) := by decide +kernel
theorem dX12_likeliest_51 : decode cX12_likeliest 51 = .ok (.aload_n 0, 1) := by decide +kernel
theorem dX12_likeliest_52 : decode cX12_likeliest 52 = .ok (.invokevirtual 260, 3) := by decide +kernel
theorem dX12_likeliest_55 : decode cX12_likeliest 55 = .ok (.iload_n 1, 1) := by decide +kernel
theorem dX12_likeliest_56 : decode cX12_likeliest 56 = .ok (.iload 5, 2) := by decide +kernel
theorem dX12_likeliest_58 : decode cX12_likeliest 58 = .ok (.iload_n 2, 1) := by decide +kernel
theorem dX12_likeliest_59 : decode cX12_likeliest 59 = .ok (.invokevirtual 434, 3) := by decide +kernel
theorem dX12_likeliest_62 : decode cX12_likeliest 62 = .ok (.istore 6, 2) := by decide +kernel
theorem dX12_likeliest_64 : decode cX12_likeliest 64 = .ok (.iload 6, 2) := by decide +kernel
theorem dX12_likeliest_66 : decode cX12_likeliest 66 = .ok (.iload 4, 2) := by decide +kernel
theorem dX12_likeliest_68 : decode cX12_likeliest 68 = .ok (.if_icmp .gt 6, 3) := by decide +kernel
theorem dX12_likeliest_71 : decode cX12_likeliest 71 = .ok (.goto 10, 3) := by decide +kernel
theorem dX12_likeliest_74 : decode cX12_likeliest 74 = .ok (.iload 5, 2) := by decide +kernel
theorem dX12_likeliest_76 : decode cX12_likeliest 76 = .ok (.istore_n 3, 1) := by decide +kernel
theorem dX12_likeliest_77 : decode cX12_likeliest 77 = .ok (.iload 6, 2) := by decide +kernel
theorem dX12_likeliest_79 : decode cX12_likeliest 79 = .ok (.istore 4, 2) := by decide +kernel
theorem dX12_likeliest_81 : decode cX12_likeliest 81 = .ok (.iinc 5 1, 3) := by decide +kernel
theorem dX12_likeliest_84 : decode cX12_likeliest 84 = .ok (.goto (-45), 3) := by decide +kernel
theorem dX12_likeliest_87 : decode cX12_likeliest 87 = .ok (.iload_n 3, 1) := by decide +kernel
theorem dX12_likeliest_88 : decode cX12_likeliest 88 = .ok (.ireturn, 1) := by decide +kernel
theorem dX12_cut_0 : decode cX12_cut 0 = .ok (.iload_n 2, 1) := by decide +kernel
theorem dX12_cut_1 : decode cX12_cut 1 = .ok (.ifCond .ne 10, 3) := by decide +kernel
theorem dX12_cut_4 : decode cX12_cut 4 = .ok (.lload_n 0, 1) := by decide +kernel
theorem dX12_cut_5 : decode cX12_cut 5 = .ok (.l2i, 1) := by decide +kernel
theorem dX12_cut_6 : decode cX12_cut 6 = .ok (.i2b, 1) := by decide +kernel
theorem dX12_cut_7 : decode cX12_cut 7 = .ok (.i2l, 1) := by decide +kernel
theorem dX12_cut_8 : decode cX12_cut 8 = .ok (.goto 27, 3) := by decide +kernel
theorem dX12_cut_11 : decode cX12_cut 11 = .ok (.iload_n 2, 1) := by decide +kernel
theorem dX12_cut_12 : decode cX12_cut 12 = .ok (.iconst 1, 1) := by decide +kernel
theorem dX12_cut_13 : decode cX12_cut 13 = .ok (.if_icmp .ne 10, 3) := by decide +kernel
theorem dX12_cut_16 : decode cX12_cut 16 = .ok (.lload_n 0, 1) := by decide +kernel
theorem dX12_cut_17 : decode cX12_cut 17 = .ok (.l2i, 1) := by decide +kernel
theorem dX12_cut_18 : decode cX12_cut 18 = .ok (.i2s, 1) := by decide +kernel
theorem dX12_cut_19 : decode cX12_cut 19 = .ok (.i2l, 1) := by decide +kernel
theorem dX12_cut_20 : decode cX12_cut 20 = .ok (.goto 15, 3) := by decide +kernel
theorem dX12_cut_23 : decode cX12_cut 23 = .ok (.iload_n 2, 1) := by decide +kernel
theorem dX12_cut_24 : decode cX12_cut 24 = .ok (.iconst 2, 1) := by decide +kernel
theorem dX12_cut_25 : decode cX12_cut 25 = .ok (.if_icmp .ne 9, 3) := by decide +kernel
theorem dX12_cut_28 : decode cX12_cut 28 = .ok (.lload_n 0, 1) := by decide +kernel
theorem dX12_cut_29 : decode cX12_cut 29 = .ok (.l2i, 1) := by decide +kernel
theorem dX12_cut_30 : decode cX12_cut 30 = .ok (.i2l, 1) := by decide +kernel
theorem dX12_cut_31 : decode cX12_cut 31 = .ok (.goto 4, 3) := by decide +kernel
theorem dX12_cut_34 : decode cX12_cut 34 = .ok (.lload_n 0, 1) := by decide +kernel
theorem dX12_cut_35 : decode cX12_cut 35 = .ok (.lreturn, 1) := by decide +kernel
theorem dX12_numbers_0 : decode cX12_numbers 0 = .ok (.aload_n 0, 1) := by decide +kernel
theorem dX12_numbers_1 : decode cX12_numbers 1 = .ok (.iconst 0, 1) := by decide +kernel
theorem dX12_numbers_2 : decode cX12_numbers 2 = .ok (.putfield 1, 3) := by decide +kernel
theorem dX12_numbers_5 : decode cX12_numbers 5 = .ok (.iload_n 1, 1) := by decide +kernel
theorem dX12_numbers_6 : decode cX12_numbers 6 = .ok (.i2l, 1) := by decide +kernel
theorem dX12_numbers_7 : decode cX12_numbers 7 = .ok (.lconst 0, 1) := by decide +kernel
theorem dX12_numbers_8 : decode cX12_numbers 8 = .ok (.ldc2_w 319, 3) := by decide +kernel
theorem dX12_numbers_11 : decode cX12_numbers 11 = .ok (.invokestatic 138, 3) := by decide +kernel
theorem dX12_numbers_14 : decode cX12_numbers 14 = .ok (.ifCond .eq 15, 3) := by decide +kernel
theorem dX12_numbers_17 : decode cX12_numbers 17 = .ok (.iload_n 2, 1) := by decide +kernel
theorem dX12_numbers_18 : decode cX12_numbers 18 = .ok (.i2l, 1) := by decide +kernel
theorem dX12_numbers_19 : decode cX12_numbers 19 = .ok (.lconst 0, 1) := by decide +kernel
theorem dX12_numbers_20 : decode cX12_numbers 20 = .ok (.ldc2_w 319, 3) := by decide +kernel
theorem dX12_numbers_23 : decode cX12_numbers 23 = .ok (.invokestatic 138, 3) := by decide +kernel
theorem dX12_numbers_26 : decode cX12_numbers 26 = .ok (.ifCond .ne 6, 3) := by decide +kernel
theorem dX12_numbers_29 : decode cX12_numbers 29 = .ok (.bipush (-2), 2) := by decide +kernel
theorem dX12_numbers_31 : decode cX12_numbers 31 = .ok (.ireturn, 1) := by decide +kernel
theorem dX12_numbers_32 : decode cX12_numbers 32 = .ok (.iload_n 3, 1) := by decide +kernel
theorem dX12_numbers_33 : decode cX12_numbers 33 = .ok (.i2l, 1) := by decide +kernel
theorem dX12_numbers_34 : decode cX12_numbers 34 = .ok (.lconst 0, 1) := by decide +kernel
theorem dX12_numbers_35 : decode cX12_numbers 35 = .ok (.ldc2_w 337, 3) := by decide +kernel
theorem dX12_numbers_38 : decode cX12_numbers 38 = .ok (.invokestatic 138, 3) := by decide +kernel
theorem dX12_numbers_41 : decode cX12_numbers 41 = .ok (.ifCond .ne 6, 3) := by decide +kernel
theorem dX12_numbers_44 : decode cX12_numbers 44 = .ok (.bipush (-3), 2) := by decide +kernel
theorem dX12_numbers_46 : decode cX12_numbers 46 = .ok (.ireturn, 1) := by decide +kernel
theorem dX12_numbers_47 : decode cX12_numbers 47 = .ok (.aload_n 0, 1) := by decide +kernel
theorem dX12_numbers_48 : decode cX12_numbers 48 = .ok (.getfield 63, 3) := by decide +kernel
theorem dX12_numbers_51 : decode cX12_numbers 51 = .ok (.iload_n 1, 1) := by decide +kernel
theorem dX12_numbers_52 : decode cX12_numbers 52 = .ok (.iload_n 2, 1) := by decide +kernel
theorem dX12_numbers_53 : decode cX12_numbers 53 = .ok (.iastore, 1) := by decide +kernel
theorem dX12_numbers_54 : decode cX12_numbers 54 = .ok (.aload_n 0, 1) := by decide +kernel
theorem dX12_numbers_55 : decode cX12_numbers 55 = .ok (.getfield 66, 3) := by decide +kernel
theorem dX12_numbers_58 : decode cX12_numbers 58 = .ok (.iload_n 1, 1) := by decide +kernel
theorem dX12_numbers_59 : decode cX12_numbers 59 = .ok (.iload_n 3, 1) := by decide +kernel
theorem dX12_numbers_60 : decode cX12_numbers 60 = .ok (.iastore, 1) := by decide +kernel
theorem dX12_numbers_61 : decode cX12_numbers 61 = .ok (.iconst 0, 1) := by decide +kernel
theorem dX12_numbers_62 : decode cX12_numbers 62 = .ok (.istore 4, 2) := by decide +kernel
theorem dX12_numbers_64 : decode cX12_numbers 64 = .ok (.iload 4, 2) := by decide +kernel
theorem dX12_numbers_66 : decode cX12_numbers 66 = .ok (.iload_n 3, 1) := by decide +kernel
theorem dX12_numbers_67 : decode cX12_numbers 67 = .ok (.if_icmp .ge 22, 3) := by decide +kernel
theorem dX12_numbers_70 : decode cX12_numbers 70 = .ok (.aload_n 0, 1) := by decide +kernel
theorem dX12_numbers_71 : decode cX12_numbers 71 = .ok (.getfield 69, 3) := by decide +kernel
theorem dX12_numbers_74 : decode cX12_numbers 74 = .ok (.bipush 40, 2) := by decide +kernel
theorem dX12_numbers_76 : decode cX12_numbers 76 = .ok (.iload_n 1, 1) := by decide +kernel
theorem dX12_numbers_77 : decode cX12_numbers 77 = .ok (.imul, 1) := by decide +kernel
theorem dX12_numbers_78 : decode cX12_numbers 78 = .ok (.iload 4, 2) := by decide +kernel
theorem dX12_numbers_80 : decode cX12_numbers 80 = .ok (.iadd, 1) := by decide +kernel
theorem dX12_numbers_81 : decode cX12_numbers 81 = .ok (.lconst 0, 1) := by decide +kernel
theorem dX12_numbers_82 : decode cX12_numbers 82 = .ok (.lastore, 1) := by decide +kernel
theorem dX12_numbers_83 : decode cX12_numbers 83 = .ok (.iinc 4 1, 3) := by decide +kernel
theorem dX12_numbers_86 : decode cX12_numbers 86 = .ok (.goto (-22), 3) := by decide +kernel
theorem dX12_numbers_89 : decode cX12_numbers 89 = .ok (.iconst 0, 1) := by decide +kernel
theorem dX12_numbers_90 : decode cX12_numbers 90 = .ok (.ireturn, 1) := by decide +kernel
theorem dX12_write_0 : decode cX12_write 0 = .ok (.aload_n 0, 1) := by decide +kernel
theorem dX12_write_1 : decode cX12_write 1 = .ok (.iconst 0, 1) := by decide +kernel
theorem dX12_write_2 : decode cX12_write 2 = .ok (.putfield 1, 3) := by decide +kernel
theorem dX12_write_5 : decode cX12_write 5 = .ok (.aload_n 0, 1) := by decide +kernel
theorem dX12_write_6 : decode cX12_write 6 = .ok (.iload_n 1, 1) := by decide +kernel
theorem dX12_write_7 : decode cX12_write 7 = .ok (.invokevirtual 321, 3) := by decide +kernel
theorem dX12_write_10 : decode cX12_write 10 = .ok (.istore 5, 2) := by decide +kernel
theorem dX12_write_12 : decode cX12_write 12 = .ok (.iload 5, 2) := by decide +kernel
theorem dX12_write_14 : decode cX12_write 14 = .ok (.ifCond .eq 7, 3) := by decide +kernel
theorem dX12_write_17 : decode cX12_write 17 = .ok (.iload 5, 2) := by decide +kernel
theorem dX12_write_19 : decode cX12_write 19 = .ok (.i2l, 1) := by decide +kernel
theorem dX12_write_20 : decode cX12_write 20 = .ok (.lreturn, 1) := by decide +kernel
theorem dX12_write_21 : decode cX12_write 21 = .ok (.iload_n 2, 1) := by decide +kernel
theorem dX12_write_22 : decode cX12_write 22 = .ok (.i2l, 1) := by decide +kernel
theorem dX12_write_23 : decode cX12_write 23 = .ok (.lconst 0, 1) := by decide +kernel
theorem dX12_write_24 : decode cX12_write 24 = .ok (.aload_n 0, 1) := by decide +kernel
theorem dX12_write_25 : decode cX12_write 25 = .ok (.getfield 66, 3) := by decide +kernel
theorem dX12_write_28 : decode cX12_write 28 = .ok (.iload_n 1, 1) := by decide +kernel
theorem dX12_write_29 : decode cX12_write 29 = .ok (.iaload, 1) := by decide +kernel
theorem dX12_write_30 : decode cX12_write 30 = .ok (.iconst 1, 1) := by decide +kernel
theorem dX12_write_31 : decode cX12_write 31 = .ok (.isub, 1) := by decide +kernel
theorem dX12_write_32 : decode cX12_write 32 = .ok (.i2l, 1) := by decide +kernel
theorem dX12_write_33 : decode cX12_write 33 = .ok (.invokestatic 138, 3) := by decide +kernel
theorem dX12_write_36 : decode cX12_write 36 = .ok (.ifCond .ne 7, 3) := by decide +kernel
theorem dX12_write_39 : decode cX12_write 39 = .ok (.ldc2_w 442, 3) := by decide +kernel
theorem dX12_write_42 : decode cX12_write 42 = .ok (.lreturn, 1) := by decide +kernel
theorem dX12_write_43 : decode cX12_write 43 = .ok (.aload_n 0, 1) := by decide +kernel
theorem dX12_write_44 : decode cX12_write 44 = .ok (.getfield 69, 3) := by decide +kernel
theorem dX12_write_47 : decode cX12_write 47 = .ok (.bipush 40, 2) := by decide +kernel
theorem dX12_write_49 : decode cX12_write 49 = .ok (.iload_n 1, 1) := by decide +kernel
theorem dX12_write_50 : decode cX12_write 50 = .ok (.imul, 1) := by decide +kernel
theorem dX12_write_51 : decode cX12_write 51 = .ok (.iload_n 2, 1) := by decide +kernel
theorem dX12_write_52 : decode cX12_write 52 = .ok (.iadd, 1) := by decide +kernel
theorem dX12_write_53 : decode cX12_write 53 = .ok (.lload_n 3, 1) := by decide +kernel
theorem dX12_write_54 : decode cX12_write 54 = .ok (.aload_n 0, 1) := by decide +kernel
theorem dX12_write_55 : decode cX12_write 55 = .ok (.getfield 63, 3) := by decide +kernel
theorem dX12_write_58 : decode cX12_write 58 = .ok (.iload_n 1, 1) := by decide +kernel
theorem dX12_write_59 : decode cX12_write 59 = .ok (.iaload, 1) := by decide +kernel
theorem dX12_write_60 : decode cX12_write 60 = .ok (.invokestatic 444, 3) := by decide +kernel
theorem dX12_write_63 : decode cX12_write 63 = .ok (.lastore, 1) := by decide +kernel
theorem dX12_write_64 : decode cX12_write 64 = .ok (.aload_n 0, 1) := by decide +kernel
theorem dX12_write_65 : decode cX12_write 65 = .ok (.getfield 69, 3) := by decide +kernel
theorem dX12_write_68 : decode cX12_write 68 = .ok (.bipush 40, 2) := by decide +kernel
theorem dX12_write_70 : decode cX12_write 70 = .ok (.iload_n 1, 1) := by decide +kernel
theorem dX12_write_71 : decode cX12_write 71 = .ok (.imul, 1) := by decide +kernel
theorem dX12_write_72 : decode cX12_write 72 = .ok (.iload_n 2, 1) := by decide +kernel
theorem dX12_write_73 : decode cX12_write 73 = .ok (.iadd, 1) := by decide +kernel
theorem dX12_write_74 : decode cX12_write 74 = .ok (.laload, 1) := by decide +kernel
theorem dX12_write_75 : decode cX12_write 75 = .ok (.lreturn, 1) := by decide +kernel
theorem dX12_lists_0 : decode cX12_lists 0 = .ok (.aload_n 0, 1) := by decide +kernel
theorem dX12_lists_1 : decode cX12_lists 1 = .ok (.iconst 0, 1) := by decide +kernel
theorem dX12_lists_2 : decode cX12_lists 2 = .ok (.putfield 1, 3) := by decide +kernel
theorem dX12_lists_5 : decode cX12_lists 5 = .ok (.aload_n 0, 1) := by decide +kernel
theorem dX12_lists_6 : decode cX12_lists 6 = .ok (.iload_n 1, 1) := by decide +kernel
theorem dX12_lists_7 : decode cX12_lists 7 = .ok (.invokevirtual 321, 3) := by decide +kernel
theorem dX12_lists_10 : decode cX12_lists 10 = .ok (.istore 4, 2) := by decide +kernel
theorem dX12_lists_12 : decode cX12_lists 12 = .ok (.iload 4, 2) := by decide +kernel
theorem dX12_lists_14 : decode cX12_lists 14 = .ok (.ifCond .eq 6, 3) := by decide +kernel
theorem dX12_lists_17 : decode cX12_lists 17 = .ok (.iload 4, 2) := by decide +kernel
theorem dX12_lists_19 : decode cX12_lists 19 = .ok (.ireturn, 1) := by decide +kernel
theorem dX12_lists_20 : decode cX12_lists 20 = .ok (.aload_n 0, 1) := by decide +kernel
theorem dX12_lists_21 : decode cX12_lists 21 = .ok (.iload_n 2, 1) := by decide +kernel
theorem dX12_lists_22 : decode cX12_lists 22 = .ok (.iload_n 3, 1) := by decide +kernel
theorem dX12_lists_23 : decode cX12_lists 23 = .ok (.invokevirtual 375, 3) := by decide +kernel
theorem dX12_lists_26 : decode cX12_lists 26 = .ok (.ifCond .ne 6, 3) := by decide +kernel
theorem dX12_lists_29 : decode cX12_lists 29 = .ok (.bipush (-3), 2) := by decide +kernel
theorem dX12_lists_31 : decode cX12_lists 31 = .ok (.ireturn, 1) := by decide +kernel
theorem dX12_lists_32 : decode cX12_lists 32 = .ok (.aload_n 0, 1) := by decide +kernel
theorem dX12_lists_33 : decode cX12_lists 33 = .ok (.iload_n 2, 1) := by decide +kernel
theorem dX12_lists_34 : decode cX12_lists 34 = .ok (.iload_n 3, 1) := by decide +kernel
theorem dX12_lists_35 : decode cX12_lists 35 = .ok (.invokevirtual 379, 3) := by decide +kernel
theorem dX12_lists_38 : decode cX12_lists 38 = .ok (.aload_n 0, 1) := by decide +kernel
theorem dX12_lists_39 : decode cX12_lists 39 = .ok (.sipush 511, 3) := by decide +kernel
theorem dX12_lists_42 : decode cX12_lists 42 = .ok (.iconst 0, 1) := by decide +kernel
theorem dX12_lists_43 : decode cX12_lists 43 = .ok (.invokevirtual 383, 3) := by decide +kernel
theorem dX12_lists_46 : decode cX12_lists 46 = .ok (.istore 5, 2) := by decide +kernel
theorem dX12_lists_48 : decode cX12_lists 48 = .ok (.iload 5, 2) := by decide +kernel
theorem dX12_lists_50 : decode cX12_lists 50 = .ok (.ldc_w 357, 3) := by decide +kernel
theorem dX12_lists_53 : decode cX12_lists 53 = .ok (.if_icmp .ne 6, 3) := by decide +kernel
theorem dX12_lists_56 : decode cX12_lists 56 = .ok (.bipush (-5), 2) := by decide +kernel
theorem dX12_lists_58 : decode cX12_lists 58 = .ok (.ireturn, 1) := by decide +kernel
theorem dX12_lists_59 : decode cX12_lists 59 = .ok (.iload 5, 2) := by decide +kernel
theorem dX12_lists_61 : decode cX12_lists 61 = .ok (.aload_n 0, 1) := by decide +kernel
theorem dX12_lists_62 : decode cX12_lists 62 = .ok (.getfield 66, 3) := by decide +kernel
theorem dX12_lists_65 : decode cX12_lists 65 = .ok (.iload_n 1, 1) := by decide +kernel
theorem dX12_lists_66 : decode cX12_lists 66 = .ok (.iaload, 1) := by decide +kernel
theorem dX12_lists_67 : decode cX12_lists 67 = .ok (.if_icmp .ge 8, 3) := by decide +kernel
theorem dX12_lists_70 : decode cX12_lists 70 = .ok (.iload 5, 2) := by decide +kernel
theorem dX12_lists_72 : decode cX12_lists 72 = .ok (.goto 9, 3) := by decide +kernel
theorem dX12_lists_75 : decode cX12_lists 75 = .ok (.aload_n 0, 1) := by decide +kernel
theorem dX12_lists_76 : decode cX12_lists 76 = .ok (.getfield 66, 3) := by decide +kernel
theorem dX12_lists_79 : decode cX12_lists 79 = .ok (.iload_n 1, 1) := by decide +kernel
theorem dX12_lists_80 : decode cX12_lists 80 = .ok (.iaload, 1) := by decide +kernel
theorem dX12_lists_81 : decode cX12_lists 81 = .ok (.istore 6, 2) := by decide +kernel
theorem dX12_lists_83 : decode cX12_lists 83 = .ok (.iconst 0, 1) := by decide +kernel
theorem dX12_lists_84 : decode cX12_lists 84 = .ok (.istore 7, 2) := by decide +kernel
theorem dX12_lists_86 : decode cX12_lists 86 = .ok (.iload 7, 2) := by decide +kernel
theorem dX12_lists_88 : decode cX12_lists 88 = .ok (.iload 6, 2) := by decide +kernel
theorem dX12_lists_90 : decode cX12_lists 90 = .ok (.if_icmp .ge 45, 3) := by decide +kernel
theorem dX12_lists_93 : decode cX12_lists 93 = .ok (.aload_n 0, 1) := by decide +kernel
theorem dX12_lists_94 : decode cX12_lists 94 = .ok (.getfield 69, 3) := by decide +kernel
theorem dX12_lists_97 : decode cX12_lists 97 = .ok (.bipush 40, 2) := by decide +kernel
theorem dX12_lists_99 : decode cX12_lists 99 = .ok (.iload_n 1, 1) := by decide +kernel
theorem dX12_lists_100 : decode cX12_lists 100 = .ok (.imul, 1) := by decide +kernel
theorem dX12_lists_101 : decode cX12_lists 101 = .ok (.iload 7, 2) := by decide +kernel
theorem dX12_lists_103 : decode cX12_lists 103 = .ok (.iadd, 1) := by decide +kernel
theorem dX12_lists_104 : decode cX12_lists 104 = .ok (.aload_n 0, 1) := by decide +kernel
theorem dX12_lists_105 : decode cX12_lists 105 = .ok (.iload 7, 2) := by decide +kernel
theorem dX12_lists_107 : decode cX12_lists 107 = .ok (.invokevirtual 390, 3) := by decide +kernel
theorem dX12_lists_110 : decode cX12_lists 110 = .ok (.bipush 99, 2) := by decide +kernel
theorem dX12_lists_112 : decode cX12_lists 112 = .ok (.if_icmp .ne 9, 3) := by decide +kernel
theorem dX12_lists_115 : decode cX12_lists 115 = .ok (.ldc2_w 297, 3) := by decide +kernel
theorem dX12_lists_118 : decode cX12_lists 118 = .ok (.goto 10, 3) := by decide +kernel
theorem dX12_lists_121 : decode cX12_lists 121 = .ok (.aload_n 0, 1) := by decide +kernel
theorem dX12_lists_122 : decode cX12_lists 122 = .ok (.iload 7, 2) := by decide +kernel
theorem dX12_lists_124 : decode cX12_lists 124 = .ok (.invokevirtual 390, 3) := by decide +kernel
theorem dX12_lists_127 : decode cX12_lists 127 = .ok (.i2l, 1) := by decide +kernel
theorem dX12_lists_128 : decode cX12_lists 128 = .ok (.lastore, 1) := by decide +kernel
theorem dX12_lists_129 : decode cX12_lists 129 = .ok (.iinc 7 1, 3) := by decide +kernel
theorem dX12_lists_132 : decode cX12_lists 132 = .ok (.goto (-46), 3) := by decide +kernel
theorem dX12_lists_135 : decode cX12_lists 135 = .ok (.iload 6, 2) := by decide +kernel
theorem dX12_lists_137 : decode cX12_lists 137 = .ok (.ireturn, 1) := by decide +kernel
theorem dX12_image_0 : decode cX12_image 0 = .ok (.aload_n 0, 1) := by decide +kernel
theorem dX12_image_1 : decode cX12_image 1 = .ok (.iconst 0, 1) := by decide +kernel
theorem dX12_image_2 : decode cX12_image 2 = .ok (.putfield 1, 3) := by decide +kernel
theorem dX12_image_5 : decode cX12_image 5 = .ok (.iload_n 1, 1) := by decide +kernel
theorem dX12_image_6 : decode cX12_image 6 = .ok (.i2l, 1) := by decide +kernel
theorem dX12_image_7 : decode cX12_image 7 = .ok (.lconst 0, 1) := by decide +kernel
theorem dX12_image_8 : decode cX12_image 8 = .ok (.lconst 1, 1) := by decide +kernel
theorem dX12_image_9 : decode cX12_image 9 = .ok (.invokestatic 138, 3) := by decide +kernel
theorem dX12_image_12 : decode cX12_image 12 = .ok (.ifCond .ne 6, 3) := by decide +kernel
theorem dX12_image_15 : decode cX12_image 15 = .ok (.bipush (-2), 2) := by decide +kernel
theorem dX12_image_17 : decode cX12_image 17 = .ok (.ireturn, 1) := by decide +kernel
theorem dX12_image_18 : decode cX12_image 18 = .ok (.iconst 0, 1) := by decide +kernel
theorem dX12_image_19 : decode cX12_image 19 = .ok (.istore_n 2, 1) := by decide +kernel
theorem dX12_image_20 : decode cX12_image 20 = .ok (.iload_n 2, 1) := by decide +kernel
theorem dX12_image_21 : decode cX12_image 21 = .ok (.sipush 1044, 3) := by decide +kernel
theorem dX12_image_24 : decode cX12_image 24 = .ok (.if_icmp .ge 29, 3) := by decide +kernel
theorem dX12_image_27 : decode cX12_image 27 = .ok (.aload_n 0, 1) := by decide +kernel
theorem dX12_image_28 : decode cX12_image 28 = .ok (.getfield 13, 3) := by decide +kernel
theorem dX12_image_31 : decode cX12_image 31 = .ok (.sipush 1044, 3) := by decide +kernel
theorem dX12_image_34 : decode cX12_image 34 = .ok (.iload_n 1, 1) := by decide +kernel
theorem dX12_image_35 : decode cX12_image 35 = .ok (.iconst 1, 1) := by decide +kernel
theorem dX12_image_36 : decode cX12_image 36 = .ok (.iadd, 1) := by decide +kernel
theorem dX12_image_37 : decode cX12_image 37 = .ok (.imul, 1) := by decide +kernel
theorem dX12_image_38 : decode cX12_image 38 = .ok (.iload_n 2, 1) := by decide +kernel
theorem dX12_image_39 : decode cX12_image 39 = .ok (.iadd, 1) := by decide +kernel
theorem dX12_image_40 : decode cX12_image 40 = .ok (.aload_n 0, 1) := by decide +kernel
theorem dX12_image_41 : decode cX12_image 41 = .ok (.getfield 13, 3) := by decide +kernel
theorem dX12_image_44 : decode cX12_image 44 = .ok (.iload_n 2, 1) := by decide +kernel
theorem dX12_image_45 : decode cX12_image 45 = .ok (.iaload, 1) := by decide +kernel
theorem dX12_image_46 : decode cX12_image 46 = .ok (.iastore, 1) := by decide +kernel
theorem dX12_image_47 : decode cX12_image 47 = .ok (.iinc 2 1, 3) := by decide +kernel
theorem dX12_image_50 : decode cX12_image 50 = .ok (.goto (-30), 3) := by decide +kernel
theorem dX12_image_53 : decode cX12_image 53 = .ok (.aload_n 0, 1) := by decide +kernel
theorem dX12_image_54 : decode cX12_image 54 = .ok (.getfield 17, 3) := by decide +kernel
theorem dX12_image_57 : decode cX12_image 57 = .ok (.iload_n 1, 1) := by decide +kernel
theorem dX12_image_58 : decode cX12_image 58 = .ok (.iconst 1, 1) := by decide +kernel
theorem dX12_image_59 : decode cX12_image 59 = .ok (.bastore, 1) := by decide +kernel
theorem dX12_image_60 : decode cX12_image 60 = .ok (.iconst 0, 1) := by decide +kernel
theorem dX12_image_61 : decode cX12_image 61 = .ok (.ireturn, 1) := by decide +kernel
theorem dX12_restore_0 : decode cX12_restore 0 = .ok (.aload_n 0, 1) := by decide +kernel
theorem dX12_restore_1 : decode cX12_restore 1 = .ok (.iconst 0, 1) := by decide +kernel
theorem dX12_restore_2 : decode cX12_restore 2 = .ok (.putfield 1, 3) := by decide +kernel
theorem dX12_restore_5 : decode cX12_restore 5 = .ok (.iload_n 1, 1) := by decide +kernel
theorem dX12_restore_6 : decode cX12_restore 6 = .ok (.i2l, 1) := by decide +kernel
theorem dX12_restore_7 : decode cX12_restore 7 = .ok (.lconst 0, 1) := by decide +kernel
theorem dX12_restore_8 : decode cX12_restore 8 = .ok (.lconst 1, 1) := by decide +kernel
theorem dX12_restore_9 : decode cX12_restore 9 = .ok (.invokestatic 138, 3) := by decide +kernel
theorem dX12_restore_12 : decode cX12_restore 12 = .ok (.ifCond .ne 6, 3) := by decide +kernel
theorem dX12_restore_15 : decode cX12_restore 15 = .ok (.bipush (-2), 2) := by decide +kernel
theorem dX12_restore_17 : decode cX12_restore 17 = .ok (.ireturn, 1) := by decide +kernel
theorem dX12_restore_18 : decode cX12_restore 18 = .ok (.aload_n 0, 1) := by decide +kernel
theorem dX12_restore_19 : decode cX12_restore 19 = .ok (.getfield 17, 3) := by decide +kernel
theorem dX12_restore_22 : decode cX12_restore 22 = .ok (.iload_n 1, 1) := by decide +kernel
theorem dX12_restore_23 : decode cX12_restore 23 = .ok (.baload, 1) := by decide +kernel
theorem dX12_restore_24 : decode cX12_restore 24 = .ok (.ifCond .ne 6, 3) := by decide +kernel
theorem dX12_restore_27 : decode cX12_restore 27 = .ok (.bipush (-5), 2) := by decide +kernel
theorem dX12_restore_29 : decode cX12_restore 29 = .ok (.ireturn, 1) := by decide +kernel
theorem dX12_restore_30 : decode cX12_restore 30 = .ok (.iconst 0, 1) := by decide +kernel
theorem dX12_restore_31 : decode cX12_restore 31 = .ok (.istore_n 2, 1) := by decide +kernel
theorem dX12_restore_32 : decode cX12_restore 32 = .ok (.iload_n 2, 1) := by decide +kernel
theorem dX12_restore_33 : decode cX12_restore 33 = .ok (.sipush 1044, 3) := by decide +kernel
theorem dX12_restore_36 : decode cX12_restore 36 = .ok (.if_icmp .ge 29, 3) := by decide +kernel
theorem dX12_restore_39 : decode cX12_restore 39 = .ok (.aload_n 0, 1) := by decide +kernel
theorem dX12_restore_40 : decode cX12_restore 40 = .ok (.getfield 13, 3) := by decide +kernel
theorem dX12_restore_43 : decode cX12_restore 43 = .ok (.iload_n 2, 1) := by decide +kernel
theorem dX12_restore_44 : decode cX12_restore 44 = .ok (.aload_n 0, 1) := by decide +kernel
theorem dX12_restore_45 : decode cX12_restore 45 = .ok (.getfield 13, 3) := by decide +kernel
theorem dX12_restore_48 : decode cX12_restore 48 = .ok (.sipush 1044, 3) := by decide +kernel
theorem dX12_restore_51 : decode cX12_restore 51 = .ok (.iload_n 1, 1) := by decide +kernel
theorem dX12_restore_52 : decode cX12_restore 52 = .ok (.iconst 1, 1) := by decide +kernel
theorem dX12_restore_53 : decode cX12_restore 53 = .ok (.iadd, 1) := by decide +kernel
theorem dX12_restore_54 : decode cX12_restore 54 = .ok (.imul, 1) := by decide +kernel
theorem dX12_restore_55 : decode cX12_restore 55 = .ok (.iload_n 2, 1) := by decide +kernel
theorem dX12_restore_56 : decode cX12_restore 56 = .ok (.iadd, 1) := by decide +kernel
theorem dX12_restore_57 : decode cX12_restore 57 = .ok (.iaload, 1) := by decide +kernel
theorem dX12_restore_58 : decode cX12_restore 58 = .ok (.iastore, 1) := by decide +kernel
theorem dX12_restore_59 : decode cX12_restore 59 = .ok (.iinc 2 1, 3) := by decide +kernel
theorem dX12_restore_62 : decode cX12_restore 62 = .ok (.goto (-30), 3) := by decide +kernel
theorem dX12_restore_65 : decode cX12_restore 65 = .ok (.aload_n 0, 1) := by decide +kernel
theorem dX12_restore_66 : decode cX12_restore 66 = .ok (.getfield 13, 3) := by decide +kernel
theorem dX12_restore_69 : decode cX12_restore 69 = .ok (.bipush 52, 2) := by decide +kernel
theorem dX12_restore_71 : decode cX12_restore 71 = .ok (.iconst 0, 1) := by decide +kernel
theorem dX12_restore_72 : decode cX12_restore 72 = .ok (.iastore, 1) := by decide +kernel
theorem dX12_restore_73 : decode cX12_restore 73 = .ok (.iconst 0, 1) := by decide +kernel
theorem dX12_restore_74 : decode cX12_restore 74 = .ok (.ireturn, 1) := by decide +kernel
theorem dX12_count_0 : decode cX12_count 0 = .ok (.aload_n 0, 1) := by decide +kernel
theorem dX12_count_1 : decode cX12_count 1 = .ok (.iconst 0, 1) := by decide +kernel
theorem dX12_count_2 : decode cX12_count 2 = .ok (.putfield 1, 3) := by decide +kernel
theorem dX12_count_5 : decode cX12_count 5 = .ok (.iload_n 1, 1) := by decide +kernel
theorem dX12_count_6 : decode cX12_count 6 = .ok (.tableswitch 119 0 8 #[50, 57, 64, 73, 82, 90, 99, 107, 112], 50) := by decide +kernel
theorem dX12_count_56 : decode cX12_count 56 = .ok (.aload_n 0, 1) := by decide +kernel
theorem dX12_count_57 : decode cX12_count 57 = .ok (.getfield 13, 3) := by decide +kernel
theorem dX12_count_60 : decode cX12_count 60 = .ok (.iconst 1, 1) := by decide +kernel
theorem dX12_count_61 : decode cX12_count 61 = .ok (.iaload, 1) := by decide +kernel
theorem dX12_count_62 : decode cX12_count 62 = .ok (.ireturn, 1) := by decide +kernel
theorem dX12_count_63 : decode cX12_count 63 = .ok (.aload_n 0, 1) := by decide +kernel
theorem dX12_count_64 : decode cX12_count 64 = .ok (.getfield 13, 3) := by decide +kernel
theorem dX12_count_67 : decode cX12_count 67 = .ok (.iconst 2, 1) := by decide +kernel
theorem dX12_count_68 : decode cX12_count 68 = .ok (.iaload, 1) := by decide +kernel
theorem dX12_count_69 : decode cX12_count 69 = .ok (.ireturn, 1) := by decide +kernel
theorem dX12_count_70 : decode cX12_count 70 = .ok (.aload_n 0, 1) := by decide +kernel
theorem dX12_count_71 : decode cX12_count 71 = .ok (.invokevirtual 260, 3) := by decide +kernel
theorem dX12_count_74 : decode cX12_count 74 = .ok (.iconst 0, 1) := by decide +kernel
theorem dX12_count_75 : decode cX12_count 75 = .ok (.invokestatic 217, 3) := by decide +kernel
theorem dX12_count_78 : decode cX12_count 78 = .ok (.ireturn, 1) := by decide +kernel
theorem dX12_count_79 : decode cX12_count 79 = .ok (.aload_n 0, 1) := by decide +kernel
theorem dX12_count_80 : decode cX12_count 80 = .ok (.invokevirtual 260, 3) := by decide +kernel
theorem dX12_count_83 : decode cX12_count 83 = .ok (.iconst 1, 1) := by decide +kernel
theorem dX12_count_84 : decode cX12_count 84 = .ok (.invokestatic 217, 3) := by decide +kernel
theorem dX12_count_87 : decode cX12_count 87 = .ok (.ireturn, 1) := by decide +kernel
theorem dX12_count_88 : decode cX12_count 88 = .ok (.aload_n 0, 1) := by decide +kernel
theorem dX12_count_89 : decode cX12_count 89 = .ok (.getfield 13, 3) := by decide +kernel
theorem dX12_count_92 : decode cX12_count 92 = .ok (.bipush 51, 2) := by decide +kernel
theorem dX12_count_94 : decode cX12_count 94 = .ok (.iaload, 1) := by decide +kernel
theorem dX12_count_95 : decode cX12_count 95 = .ok (.ireturn, 1) := by decide +kernel
theorem dX12_count_96 : decode cX12_count 96 = .ok (.aload_n 0, 1) := by decide +kernel
theorem dX12_count_97 : decode cX12_count 97 = .ok (.aload_n 0, 1) := by decide +kernel
theorem dX12_count_98 : decode cX12_count 98 = .ok (.invokevirtual 260, 3) := by decide +kernel
theorem dX12_count_101 : decode cX12_count 101 = .ok (.invokevirtual 287, 3) := by decide +kernel
theorem dX12_count_104 : decode cX12_count 104 = .ok (.ireturn, 1) := by decide +kernel
theorem dX12_count_105 : decode cX12_count 105 = .ok (.aload_n 0, 1) := by decide +kernel
theorem dX12_count_106 : decode cX12_count 106 = .ok (.getfield 13, 3) := by decide +kernel
theorem dX12_count_109 : decode cX12_count 109 = .ok (.bipush 52, 2) := by decide +kernel
theorem dX12_count_111 : decode cX12_count 111 = .ok (.iaload, 1) := by decide +kernel
theorem dX12_count_112 : decode cX12_count 112 = .ok (.ireturn, 1) := by decide +kernel
theorem dX12_count_113 : decode cX12_count 113 = .ok (.aload_n 0, 1) := by decide +kernel
theorem dX12_count_114 : decode cX12_count 114 = .ok (.getfield 76, 3) := by decide +kernel
theorem dX12_count_117 : decode cX12_count 117 = .ok (.ireturn, 1) := by decide +kernel
theorem dX12_count_118 : decode cX12_count 118 = .ok (.aload_n 0, 1) := by decide +kernel
theorem dX12_count_119 : decode cX12_count 119 = .ok (.getfield 13, 3) := by decide +kernel
theorem dX12_count_122 : decode cX12_count 122 = .ok (.iconst 0, 1) := by decide +kernel
theorem dX12_count_123 : decode cX12_count 123 = .ok (.iaload, 1) := by decide +kernel
theorem dX12_count_124 : decode cX12_count 124 = .ok (.ireturn, 1) := by decide +kernel
theorem dX12_count_125 : decode cX12_count 125 = .ok (.iconst (-1), 1) := by decide +kernel
theorem dX12_count_126 : decode cX12_count 126 = .ok (.ireturn, 1) := by decide +kernel
