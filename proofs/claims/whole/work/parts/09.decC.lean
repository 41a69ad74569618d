theorem dX12_within_0 : decode cX12_within 0 = .ok (.lload_n 0, 1) := by decide +kernel
theorem dX12_within_1 : decode cX12_within 1 = .ok (.lload_n 2, 1) := by decide +kernel
theorem dX12_within_2 : decode cX12_within 2 = .ok (.lcmp, 1) := by decide +kernel
theorem dX12_within_3 : decode cX12_within 3 = .ok (.ifCond .lt 14, 3) := by decide +kernel
theorem dX12_within_6 : decode cX12_within 6 = .ok (.lload_n 0, 1) := by decide +kernel
theorem dX12_within_7 : decode cX12_within 7 = .ok (.lload 4, 2) := by decide +kernel
theorem dX12_within_9 : decode cX12_within 9 = .ok (.lcmp, 1) := by decide +kernel
theorem dX12_within_10 : decode cX12_within 10 = .ok (.ifCond .gt 7, 3) := by decide +kernel
theorem dX12_within_13 : decode cX12_within 13 = .ok (.iconst 1, 1) := by decide +kernel
theorem dX12_within_14 : decode cX12_within 14 = .ok (.goto 4, 3) := by decide +kernel
theorem dX12_within_17 : decode cX12_within 17 = .ok (.iconst 0, 1) := by decide +kernel
theorem dX12_within_18 : decode cX12_within 18 = .ok (.ireturn, 1) := by decide +kernel
theorem dX12_init_0 : decode cX12_init 0 = .ok (.aload_n 0, 1) := by decide +kernel
theorem dX12_init_1 : decode cX12_init 1 = .ok (.invokespecial 7, 3) := by decide +kernel
theorem dX12_init_4 : decode cX12_init 4 = .ok (.aload_n 0, 1) := by decide +kernel
theorem dX12_init_5 : decode cX12_init 5 = .ok (.sipush 6726, 3) := by decide +kernel
theorem dX12_init_8 : decode cX12_init 8 = .ok (.newarray .int, 2) := by decide +kernel
theorem dX12_init_10 : decode cX12_init 10 = .ok (.putfield 13, 3) := by decide +kernel
theorem dX12_init_13 : decode cX12_init 13 = .ok (.aload_n 0, 1) := by decide +kernel
theorem dX12_init_14 : decode cX12_init 14 = .ok (.iconst 2, 1) := by decide +kernel
theorem dX12_init_15 : decode cX12_init 15 = .ok (.newarray .boolean, 2) := by decide +kernel
theorem dX12_init_17 : decode cX12_init 17 = .ok (.putfield 17, 3) := by decide +kernel
theorem dX12_init_20 : decode cX12_init 20 = .ok (.aload_n 0, 1) := by decide +kernel
theorem dX12_init_21 : decode cX12_init 21 = .ok (.sipush 900, 3) := by decide +kernel
theorem dX12_init_24 : decode cX12_init 24 = .ok (.newarray .int, 2) := by decide +kernel
theorem dX12_init_26 : decode cX12_init 26 = .ok (.putfield 21, 3) := by decide +kernel
theorem dX12_init_29 : decode cX12_init 29 = .ok (.aload_n 0, 1) := by decide +kernel
theorem dX12_init_30 : decode cX12_init 30 = .ok (.sipush 2242, 3) := by decide +kernel
theorem dX12_init_33 : decode cX12_init 33 = .ok (.newarray .int, 2) := by decide +kernel
theorem dX12_init_35 : decode cX12_init 35 = .ok (.putfield 24, 3) := by decide +kernel
theorem dX12_init_38 : decode cX12_init 38 = .ok (.aload_n 0, 1) := by decide +kernel
theorem dX12_init_39 : decode cX12_init 39 = .ok (.iconst (-1), 1) := by decide +kernel
theorem dX12_init_40 : decode cX12_init 40 = .ok (.putfield 27, 3) := by decide +kernel
theorem dX12_init_43 : decode cX12_init 43 = .ok (.aload_n 0, 1) := by decide +kernel
theorem dX12_init_44 : decode cX12_init 44 = .ok (.sipush 900, 3) := by decide +kernel
theorem dX12_init_47 : decode cX12_init 47 = .ok (.newarray .int, 2) := by decide +kernel
theorem dX12_init_49 : decode cX12_init 49 = .ok (.putfield 30, 3) := by decide +kernel
theorem dX12_init_52 : decode cX12_init 52 = .ok (.aload_n 0, 1) := by decide +kernel
theorem dX12_init_53 : decode cX12_init 53 = .ok (.bipush 9, 2) := by decide +kernel
theorem dX12_init_55 : decode cX12_init 55 = .ok (.newarray .int, 2) := by decide +kernel
theorem dX12_init_57 : decode cX12_init 57 = .ok (.putfield 33, 3) := by decide +kernel
theorem dX12_init_60 : decode cX12_init 60 = .ok (.aload_n 0, 1) := by decide +kernel
theorem dX12_init_61 : decode cX12_init 61 = .ok (.bipush 116, 2) := by decide +kernel
theorem dX12_init_63 : decode cX12_init 63 = .ok (.newarray .int, 2) := by decide +kernel
theorem dX12_init_65 : decode cX12_init 65 = .ok (.putfield 36, 3) := by decide +kernel
theorem dX12_init_68 : decode cX12_init 68 = .ok (.aload_n 0, 1) := by decide +kernel
theorem dX12_init_69 : decode cX12_init 69 = .ok (.bipush 8, 2) := by decide +kernel
theorem dX12_init_71 : decode cX12_init 71 = .ok (.newarray .int, 2) := by decide +kernel
theorem dX12_init_73 : decode cX12_init 73 = .ok (.putfield 39, 3) := by decide +kernel
theorem dX12_init_76 : decode cX12_init 76 = .ok (.aload_n 0, 1) := by decide +kernel
theorem dX12_init_77 : decode cX12_init 77 = .ok (.bipush 6, 2) := by decide +kernel
theorem dX12_init_79 : decode cX12_init 79 = .ok (.newarray .int, 2) := by decide +kernel
theorem dX12_init_81 : decode cX12_init 81 = .ok (.putfield 42, 3) := by decide +kernel
theorem dX12_init_84 : decode cX12_init 84 = .ok (.aload_n 0, 1) := by decide +kernel
theorem dX12_init_85 : decode cX12_init 85 = .ok (.bipush 8, 2) := by decide +kernel
theorem dX12_init_87 : decode cX12_init 87 = .ok (.newarray .int, 2) := by decide +kernel
theorem dX12_init_89 : decode cX12_init 89 = .ok (.putfield 45, 3) := by decide +kernel
theorem dX12_init_92 : decode cX12_init 92 = .ok (.aload_n 0, 1) := by decide +kernel
theorem dX12_init_93 : decode cX12_init 93 = .ok (.bipush 8, 2) := by decide +kernel
theorem dX12_init_95 : decode cX12_init 95 = .ok (.newarray .int, 2) := by decide +kernel
theorem dX12_init_97 : decode cX12_init 97 = .ok (.putfield 48, 3) := by decide +kernel
theorem dX12_init_100 : decode cX12_init 100 = .ok (.aload_n 0, 1) := by decide +kernel
theorem dX12_init_101 : decode cX12_init 101 = .ok (.bipush 64, 2) := by decide +kernel
theorem dX12_init_103 : decode cX12_init 103 = .ok (.newarray .int, 2) := by decide +kernel
theorem dX12_init_105 : decode cX12_init 105 = .ok (.putfield 51, 3) := by decide +kernel
theorem dX12_init_108 : decode cX12_init 108 = .ok (.aload_n 0, 1) := by decide +kernel
theorem dX12_init_109 : decode cX12_init 109 = .ok (.iconst 4, 1) := by decide +kernel
theorem dX12_init_110 : decode cX12_init 110 = .ok (.newarray .int, 2) := by decide +kernel
theorem dX12_init_112 : decode cX12_init 112 = .ok (.dup, 1) := by decide +kernel
theorem dX12_init_113 : decode cX12_init 113 = .ok (.iconst 0, 1) := by decide +kernel
theorem dX12_init_114 : decode cX12_init 114 = .ok (.iconst (-1), 1) := by decide +kernel
theorem dX12_init_115 : decode cX12_init 115 = .ok (.iastore, 1) := by decide +kernel
theorem dX12_init_116 : decode cX12_init 116 = .ok (.dup, 1) := by decide +kernel
theorem dX12_init_117 : decode cX12_init 117 = .ok (.iconst 1, 1) := by decide +kernel
theorem dX12_init_118 : decode cX12_init 118 = .ok (.iconst (-1), 1) := by decide +kernel
theorem dX12_init_119 : decode cX12_init 119 = .ok (.iastore, 1) := by decide +kernel
theorem dX12_init_120 : decode cX12_init 120 = .ok (.dup, 1) := by decide +kernel
theorem dX12_init_121 : decode cX12_init 121 = .ok (.iconst 2, 1) := by decide +kernel
theorem dX12_init_122 : decode cX12_init 122 = .ok (.iconst (-1), 1) := by decide +kernel
theorem dX12_init_123 : decode cX12_init 123 = .ok (.iastore, 1) := by decide +kernel
theorem dX12_init_124 : decode cX12_init 124 = .ok (.dup, 1) := by decide +kernel
theorem dX12_init_125 : decode cX12_init 125 = .ok (.iconst 3, 1) := by decide +kernel
theorem dX12_init_126 : decode cX12_init 126 = .ok (.iconst (-1), 1) := by decide +kernel
theorem dX12_init_127 : decode cX12_init 127 = .ok (.iastore, 1) := by decide +kernel
theorem dX12_init_128 : decode cX12_init 128 = .ok (.putfield 54, 3) := by decide +kernel
theorem dX12_init_131 : decode cX12_init 131 = .ok (.aload_n 0, 1) := by decide +kernel
theorem dX12_init_132 : decode cX12_init 132 = .ok (.iconst 4, 1) := by decide +kernel
theorem dX12_init_133 : decode cX12_init 133 = .ok (.newarray .int, 2) := by decide +kernel
theorem dX12_init_135 : decode cX12_init 135 = .ok (.putfield 57, 3) := by decide +kernel
theorem dX12_init_138 : decode cX12_init 138 = .ok (.aload_n 0, 1) := by decide +kernel
theorem dX12_init_139 : decode cX12_init 139 = .ok (.sipush 160, 3) := by decide +kernel
theorem dX12_init_142 : decode cX12_init 142 = .ok (.newarray .long, 2) := by decide +kernel
theorem dX12_init_144 : decode cX12_init 144 = .ok (.putfield 60, 3) := by decide +kernel
theorem dX12_init_147 : decode cX12_init 147 = .ok (.aload_n 0, 1) := by decide +kernel
theorem dX12_init_148 : decode cX12_init 148 = .ok (.getfield 13, 3) := by decide +kernel
theorem dX12_init_151 : decode cX12_init 151 = .ok (.invokestatic 64, 3) := by decide +kernel
theorem dX12_init_154 : decode cX12_init 154 = .ok (.return_, 1) := by decide +kernel
theorem dX12_plain_0 : decode cX12_plain 0 = .ok (.iconst 0, 1) := by decide +kernel
theorem dX12_plain_1 : decode cX12_plain 1 = .ok (.istore_n 1, 1) := by decide +kernel
theorem dX12_plain_2 : decode cX12_plain 2 = .ok (.iload_n 1, 1) := by decide +kernel
theorem dX12_plain_3 : decode cX12_plain 3 = .ok (.sipush 2242, 3) := by decide +kernel
theorem dX12_plain_6 : decode cX12_plain 6 = .ok (.if_icmp .ge 13, 3) := by decide +kernel
theorem dX12_plain_9 : decode cX12_plain 9 = .ok (.aload_n 0, 1) := by decide +kernel
theorem dX12_plain_10 : decode cX12_plain 10 = .ok (.iload_n 1, 1) := by decide +kernel
theorem dX12_plain_11 : decode cX12_plain 11 = .ok (.iconst 0, 1) := by decide +kernel
theorem dX12_plain_12 : decode cX12_plain 12 = .ok (.iastore, 1) := by decide +kernel
theorem dX12_plain_13 : decode cX12_plain 13 = .ok (.iinc 1 1, 3) := by decide +kernel
theorem dX12_plain_16 : decode cX12_plain 16 = .ok (.goto (-14), 3) := by decide +kernel
theorem dX12_plain_19 : decode cX12_plain 19 = .ok (.aload_n 0, 1) := by decide +kernel
theorem dX12_plain_20 : decode cX12_plain 20 = .ok (.iconst 1, 1) := by decide +kernel
theorem dX12_plain_21 : decode cX12_plain 21 = .ok (.iconst 1, 1) := by decide +kernel
theorem dX12_plain_22 : decode cX12_plain 22 = .ok (.iastore, 1) := by decide +kernel
theorem dX12_plain_23 : decode cX12_plain 23 = .ok (.iconst 0, 1) := by decide +kernel
theorem dX12_plain_24 : decode cX12_plain 24 = .ok (.istore_n 1, 1) := by decide +kernel
theorem dX12_plain_25 : decode cX12_plain 25 = .ok (.iload_n 1, 1) := by decide +kernel
theorem dX12_plain_26 : decode cX12_plain 26 = .ok (.bipush 8, 2) := by decide +kernel
theorem dX12_plain_28 : decode cX12_plain 28 = .ok (.if_icmp .ge 16, 3) := by decide +kernel
theorem dX12_plain_31 : decode cX12_plain 31 = .ok (.aload_n 0, 1) := by decide +kernel
theorem dX12_plain_32 : decode cX12_plain 32 = .ok (.bipush 68, 2) := by decide +kernel
theorem dX12_plain_34 : decode cX12_plain 34 = .ok (.iload_n 1, 1) := by decide +kernel
theorem dX12_plain_35 : decode cX12_plain 35 = .ok (.iadd, 1) := by decide +kernel
theorem dX12_plain_36 : decode cX12_plain 36 = .ok (.iconst (-1), 1) := by decide +kernel
theorem dX12_plain_37 : decode cX12_plain 37 = .ok (.iastore, 1) := by decide +kernel
theorem dX12_plain_38 : decode cX12_plain 38 = .ok (.iinc 1 1, 3) := by decide +kernel
theorem dX12_plain_41 : decode cX12_plain 41 = .ok (.goto (-16), 3) := by decide +kernel
theorem dX12_plain_44 : decode cX12_plain 44 = .ok (.return_, 1) := by decide +kernel
theorem dX12_feed_0 : decode cX12_feed 0 = .ok (.aload_n 0, 1) := by decide +kernel
theorem dX12_feed_1 : decode cX12_feed 1 = .ok (.iconst 0, 1) := by decide +kernel
theorem dX12_feed_2 : decode cX12_feed 2 = .ok (.putfield 1, 3) := by decide +kernel
theorem dX12_feed_5 : decode cX12_feed 5 = .ok (.aload_n 0, 1) := by decide +kernel
theorem dX12_feed_6 : decode cX12_feed 6 = .ok (.getfield 68, 3) := by decide +kernel
theorem dX12_feed_9 : decode cX12_feed 9 = .ok (.bipush 20, 2) := by decide +kernel
theorem dX12_feed_11 : decode cX12_feed 11 = .ok (.iadd, 1) := by decide +kernel
theorem dX12_feed_12 : decode cX12_feed 12 = .ok (.sipush 900, 3) := by decide +kernel
theorem dX12_feed_15 : decode cX12_feed 15 = .ok (.if_icmp .le 6, 3) := by decide +kernel
theorem dX12_feed_18 : decode cX12_feed 18 = .ok (.bipush (-5), 2) := by decide +kernel
theorem dX12_feed_20 : decode cX12_feed 20 = .ok (.ireturn, 1) := by decide +kernel
theorem dX12_feed_21 : decode cX12_feed 21 = .ok (.iconst 0, 1) := by decide +kernel
theorem dX12_feed_22 : decode cX12_feed 22 = .ok (.istore 6, 2) := by decide +kernel
theorem dX12_feed_24 : decode cX12_feed 24 = .ok (.iload 6, 2) := by decide +kernel
theorem dX12_feed_26 : decode cX12_feed 26 = .ok (.bipush 20, 2) := by decide +kernel
theorem dX12_feed_28 : decode cX12_feed 28 = .ok (.if_icmp .ge 93, 3) := by decide +kernel
theorem dX12_feed_31 : decode cX12_feed 31 = .ok (.iload 6, 2) := by decide +kernel
theorem dX12_feed_33 : decode cX12_feed 33 = .ok (.iconst 4, 1) := by decide +kernel
theorem dX12_feed_34 : decode cX12_feed 34 = .ok (.if_icmp .ge 7, 3) := by decide +kernel
theorem dX12_feed_37 : decode cX12_feed 37 = .ok (.iload_n 1, 1) := by decide +kernel
theorem dX12_feed_38 : decode cX12_feed 38 = .ok (.goto 39, 3) := by decide +kernel
theorem dX12_feed_41 : decode cX12_feed 41 = .ok (.iload 6, 2) := by decide +kernel
theorem dX12_feed_43 : decode cX12_feed 43 = .ok (.bipush 8, 2) := by decide +kernel
theorem dX12_feed_45 : decode cX12_feed 45 = .ok (.if_icmp .ge 7, 3) := by decide +kernel
theorem dX12_feed_48 : decode cX12_feed 48 = .ok (.iload_n 2, 1) := by decide +kernel
theorem dX12_feed_49 : decode cX12_feed 49 = .ok (.goto 28, 3) := by decide +kernel
theorem dX12_feed_52 : decode cX12_feed 52 = .ok (.iload 6, 2) := by decide +kernel
theorem dX12_feed_54 : decode cX12_feed 54 = .ok (.bipush 12, 2) := by decide +kernel
theorem dX12_feed_56 : decode cX12_feed 56 = .ok (.if_icmp .ge 7, 3) := by decide +kernel
theorem dX12_feed_59 : decode cX12_feed 59 = .ok (.iload_n 3, 1) := by decide +kernel
theorem dX12_feed_60 : decode cX12_feed 60 = .ok (.goto 17, 3) := by decide +kernel
theorem dX12_feed_63 : decode cX12_feed 63 = .ok (.iload 6, 2) := by decide +kernel
theorem dX12_feed_65 : decode cX12_feed 65 = .ok (.bipush 16, 2) := by decide +kernel
theorem dX12_feed_67 : decode cX12_feed 67 = .ok (.if_icmp .ge 8, 3) := by decide +kernel
theorem dX12_feed_70 : decode cX12_feed 70 = .ok (.iload 4, 2) := by decide +kernel
theorem dX12_feed_72 : decode cX12_feed 72 = .ok (.goto 5, 3) := by decide +kernel
theorem dX12_feed_75 : decode cX12_feed 75 = .ok (.iload 5, 2) := by decide +kernel
theorem dX12_feed_77 : decode cX12_feed 77 = .ok (.istore 7, 2) := by decide +kernel
theorem dX12_feed_79 : decode cX12_feed 79 = .ok (.aload_n 0, 1) := by decide +kernel
theorem dX12_feed_80 : decode cX12_feed 80 = .ok (.getfield 21, 3) := by decide +kernel
theorem dX12_feed_83 : decode cX12_feed 83 = .ok (.aload_n 0, 1) := by decide +kernel
theorem dX12_feed_84 : decode cX12_feed 84 = .ok (.getfield 68, 3) := by decide +kernel
theorem dX12_feed_87 : decode cX12_feed 87 = .ok (.iload 7, 2) := by decide +kernel
theorem dX12_feed_89 : decode cX12_feed 89 = .ok (.bipush 24, 2) := by decide +kernel
theorem dX12_feed_91 : decode cX12_feed 91 = .ok (.bipush 8, 2) := by decide +kernel
theorem dX12_feed_93 : decode cX12_feed 93 = .ok (.iload 6, 2) := by decide +kernel
theorem dX12_feed_95 : decode cX12_feed 95 = .ok (.iconst 4, 1) := by decide +kernel
theorem dX12_feed_96 : decode cX12_feed 96 = .ok (.irem, 1) := by decide +kernel
theorem dX12_feed_97 : decode cX12_feed 97 = .ok (.imul, 1) := by decide +kernel
theorem dX12_feed_98 : decode cX12_feed 98 = .ok (.isub, 1) := by decide +kernel
theorem dX12_feed_99 : decode cX12_feed 99 = .ok (.ishr, 1) := by decide +kernel
theorem dX12_feed_100 : decode cX12_feed 100 = .ok (.sipush 255, 3) := by decide +kernel
theorem dX12_feed_103 : decode cX12_feed 103 = .ok (.iand, 1) := by decide +kernel
theorem dX12_feed_104 : decode cX12_feed 104 = .ok (.iastore, 1) := by decide +kernel
theorem dX12_feed_105 : decode cX12_feed 105 = .ok (.aload_n 0, 1) := by decide +kernel
theorem dX12_feed_106 : decode cX12_feed 106 = .ok (.dup, 1) := by decide +kernel
theorem dX12_feed_107 : decode cX12_feed 107 = .ok (.getfield 68, 3) := by decide +kernel
theorem dX12_feed_110 : decode cX12_feed 110 = .ok (.iconst 1, 1) := by decide +kernel
theorem dX12_feed_111 : decode cX12_feed 111 = .ok (.iadd, 1) := by decide +kernel
theorem dX12_feed_112 : decode cX12_feed 112 = .ok (.putfield 68, 3) := by decide +kernel
theorem dX12_feed_115 : decode cX12_feed 115 = .ok (.iinc 6 1, 3) := by decide +kernel
theorem dX12_feed_118 : decode cX12_feed 118 = .ok (.goto (-94), 3) := by decide +kernel
theorem dX12_feed_121 : decode cX12_feed 121 = .ok (.aload_n 0, 1) := by decide +kernel
theorem dX12_feed_122 : decode cX12_feed 122 = .ok (.getfield 68, 3) := by decide +kernel
theorem dX12_feed_125 : decode cX12_feed 125 = .ok (.ireturn, 1) := by decide +kernel
theorem dX12_see_0 : decode cX12_see 0 = .ok (.iload_n 1, 1) := by decide +kernel
theorem dX12_see_1 : decode cX12_see 1 = .ok (.aload_n 0, 1) := by decide +kernel
theorem dX12_see_2 : decode cX12_see 2 = .ok (.getfield 71, 3) := by decide +kernel
theorem dX12_see_5 : decode cX12_see 5 = .ok (.if_icmp .ge 12, 3) := by decide +kernel
theorem dX12_see_8 : decode cX12_see 8 = .ok (.aload_n 0, 1) := by decide +kernel
theorem dX12_see_9 : decode cX12_see 9 = .ok (.getfield 21, 3) := by decide +kernel
theorem dX12_see_12 : decode cX12_see 12 = .ok (.iload_n 1, 1) := by decide +kernel
theorem dX12_see_13 : decode cX12_see 13 = .ok (.iaload, 1) := by decide +kernel
theorem dX12_see_14 : decode cX12_see 14 = .ok (.goto 4, 3) := by decide +kernel
theorem dX12_see_17 : decode cX12_see 17 = .ok (.iconst (-1), 1) := by decide +kernel
theorem dX12_see_18 : decode cX12_see 18 = .ok (.ireturn, 1) := by decide +kernel
theorem dX12_isSmall_0 : decode cX12_isSmall 0 = .ok (.iload_n 0, 1) := by decide +kernel
theorem dX12_isSmall_1 : decode cX12_isSmall 1 = .ok (.bipush 97, 2) := by decide +kernel
theorem dX12_isSmall_3 : decode cX12_isSmall 3 = .ok (.if_icmp .lt 13, 3) := by decide +kernel
theorem dX12_isSmall_6 : decode cX12_isSmall 6 = .ok (.iload_n 0, 1) := by decide +kernel
theorem dX12_isSmall_7 : decode cX12_isSmall 7 = .ok (.bipush 122, 2) := by decide +kernel
theorem dX12_isSmall_9 : decode cX12_isSmall 9 = .ok (.if_icmp .gt 7, 3) := by decide +kernel
theorem dX12_isSmall_12 : decode cX12_isSmall 12 = .ok (.iconst 1, 1) := by decide +kernel
theorem dX12_isSmall_13 : decode cX12_isSmall 13 = .ok (.goto 4, 3) := by decide +kernel
theorem dX12_isSmall_16 : decode cX12_isSmall 16 = .ok (.iconst 0, 1) := by decide +kernel
theorem dX12_isSmall_17 : decode cX12_isSmall 17 = .ok (.ireturn, 1) := by decide +kernel
theorem dX12_isDigit_0 : decode cX12_isDigit 0 = .ok (.iload_n 0, 1) := by decide +kernel
theorem dX12_isDigit_1 : decode cX12_isDigit 1 = .ok (.bipush 48, 2) := by decide +kernel
theorem dX12_isDigit_3 : decode cX12_isDigit 3 = .ok (.if_icmp .lt 13, 3) := by decide +kernel
theorem dX12_isDigit_6 : decode cX12_isDigit 6 = .ok (.iload_n 0, 1) := by decide +kernel
theorem dX12_isDigit_7 : decode cX12_isDigit 7 = .ok (.bipush 57, 2) := by decide +kernel
theorem dX12_isDigit_9 : decode cX12_isDigit 9 = .ok (.if_icmp .gt 7, 3) := by decide +kernel
theorem dX12_isDigit_12 : decode cX12_isDigit 12 = .ok (.iconst 1, 1) := by decide +kernel
theorem dX12_isDigit_13 : decode cX12_isDigit 13 = .ok (.goto 4, 3) := by decide +kernel
theorem dX12_isDigit_16 : decode cX12_isDigit 16 = .ok (.iconst 0, 1) := by decide +kernel
theorem dX12_isDigit_17 : decode cX12_isDigit 17 = .ok (.ireturn, 1) := by decide +kernel
theorem dX12_keyAt_0 : decode cX12_keyAt 0 = .ok (.iconst 0, 1) := by decide +kernel
theorem dX12_keyAt_1 : decode cX12_keyAt 1 = .ok (.istore_n 1, 1) := by decide +kernel
theorem dX12_keyAt_2 : decode cX12_keyAt 2 = .ok (.iconst 1, 1) := by decide +kernel
theorem dX12_keyAt_3 : decode cX12_keyAt 3 = .ok (.istore_n 2, 1) := by decide +kernel
theorem dX12_keyAt_4 : decode cX12_keyAt 4 = .ok (.iload_n 2, 1) := by decide +kernel
theorem dX12_keyAt_5 : decode cX12_keyAt 5 = .ok (.ldc 74, 2) := by decide +kernel
theorem dX12_keyAt_7 : decode cX12_keyAt 7 = .ok (.invokevirtual 76, 3) := by decide +kernel
theorem dX12_keyAt_10 : decode cX12_keyAt 10 = .ok (.if_icmp .ge 113, 3) := by decide +kernel
theorem dX12_keyAt_13 : decode cX12_keyAt 13 = .ok (.iconst 0, 1) := by decide +kernel
theorem dX12_keyAt_14 : decode cX12_keyAt 14 = .ok (.istore_n 3, 1) := by decide +kernel
theorem dX12_keyAt_15 : decode cX12_keyAt 15 = .ok (.ldc 74, 2) := by decide +kernel
theorem dX12_keyAt_17 : decode cX12_keyAt 17 = .ok (.iload_n 2, 1) := by decide +kernel
theorem dX12_keyAt_18 : decode cX12_keyAt 18 = .ok (.iload_n 3, 1) := by decide +kernel
theorem dX12_keyAt_19 : decode cX12_keyAt 19 = .ok (.iadd, 1) := by decide +kernel
theorem dX12_keyAt_20 : decode cX12_keyAt 20 = .ok (.invokevirtual 82, 3) := by decide +kernel
theorem dX12_keyAt_23 : decode cX12_keyAt 23 = .ok (.bipush 32, 2) := by decide +kernel
theorem dX12_keyAt_25 : decode cX12_keyAt 25 = .ok (.if_icmp .eq 44, 3) := by decide +kernel
theorem dX12_keyAt_28 : decode cX12_keyAt 28 = .ok (.aload_n 0, 1) := by decide +kernel
theorem dX12_keyAt_29 : decode cX12_keyAt 29 = .ok (.getfield 86, 3) := by decide +kernel
theorem dX12_keyAt_32 : decode cX12_keyAt 32 = .ok (.iload_n 3, 1) := by decide +kernel
theorem dX12_keyAt_33 : decode cX12_keyAt 33 = .ok (.iadd, 1) := by decide +kernel
theorem dX12_keyAt_34 : decode cX12_keyAt 34 = .ok (.aload_n 0, 1) := by decide +kernel
theorem dX12_keyAt_35 : decode cX12_keyAt 35 = .ok (.getfield 89, 3) := by decide +kernel
theorem dX12_keyAt_38 : decode cX12_keyAt 38 = .ok (.if_icmp .ge 31, 3) := by decide +kernel
theorem dX12_keyAt_41 : decode cX12_keyAt 41 = .ok (.aload_n 0, 1) := by decide +kernel
theorem dX12_keyAt_42 : decode cX12_keyAt 42 = .ok (.getfield 21, 3) := by decide +kernel
theorem dX12_keyAt_45 : decode cX12_keyAt 45 = .ok (.aload_n 0, 1) := by decide +kernel
theorem dX12_keyAt_46 : decode cX12_keyAt 46 = .ok (.getfield 86, 3) := by decide +kernel
theorem dX12_keyAt_49 : decode cX12_keyAt 49 = .ok (.iload_n 3, 1) := by decide +kernel
theorem dX12_keyAt_50 : decode cX12_keyAt 50 = .ok (.iadd, 1) := by decide +kernel
theorem dX12_keyAt_51 : decode cX12_keyAt 51 = .ok (.iaload, 1) := by decide +kernel
theorem dX12_keyAt_52 : decode cX12_keyAt 52 = .ok (.ldc 74, 2) := by decide +kernel
theorem dX12_keyAt_54 : decode cX12_keyAt 54 = .ok (.iload_n 2, 1) := by decide +kernel
theorem dX12_keyAt_55 : decode cX12_keyAt 55 = .ok (.iload_n 3, 1) := by decide +kernel
theorem dX12_keyAt_56 : decode cX12_keyAt 56 = .ok (.iadd, 1) := by decide +kernel
theorem dX12_keyAt_57 : decode cX12_keyAt 57 = .ok (.invokevirtual 82, 3) := by decide +kernel
theorem dX12_keyAt_60 : decode cX12_keyAt 60 = .ok (.if_icmp .ne 9, 3) := by decide +kernel
theorem dX12_keyAt_63 : decode cX12_keyAt 63 = .ok (.iinc 3 1, 3) := by decide +kernel
theorem dX12_keyAt_66 : decode cX12_keyAt 66 = .ok (.goto (-51), 3) := by decide +kernel
theorem dX12_keyAt_69 : decode cX12_keyAt 69 = .ok (.ldc 74, 2) := by decide +kernel
theorem dX12_keyAt_71 : decode cX12_keyAt 71 = .ok (.iload_n 2, 1) := by decide +kernel
theorem dX12_keyAt_72 : decode cX12_keyAt 72 = .ok (.iload_n 3, 1) := by decide +kernel
theorem dX12_keyAt_73 : decode cX12_keyAt 73 = .ok (.iadd, 1) := by decide +kernel
theorem dX12_keyAt_74 : decode cX12_keyAt 74 = .ok (.invokevirtual 82, 3) := by decide +kernel
theorem dX12_keyAt_77 : decode cX12_keyAt 77 = .ok (.bipush 32, 2) := by decide +kernel
theorem dX12_keyAt_79 : decode cX12_keyAt 79 = .ok (.if_icmp .ne 18, 3) := by decide +kernel
theorem dX12_keyAt_82 : decode cX12_keyAt 82 = .ok (.aload_n 0, 1) := by decide +kernel
theorem dX12_keyAt_83 : decode cX12_keyAt 83 = .ok (.getfield 86, 3) := by decide +kernel
theorem dX12_keyAt_86 : decode cX12_keyAt 86 = .ok (.iload_n 3, 1) := by decide +kernel
theorem dX12_keyAt_87 : decode cX12_keyAt 87 = .ok (.iadd, 1) := by decide +kernel
theorem dX12_keyAt_88 : decode cX12_keyAt 88 = .ok (.aload_n 0, 1) := by decide +kernel
theorem dX12_keyAt_89 : decode cX12_keyAt 89 = .ok (.getfield 89, 3) := by decide +kernel
theorem dX12_keyAt_92 : decode cX12_keyAt 92 = .ok (.if_icmp .ne 5, 3) := by decide +kernel
theorem dX12_keyAt_95 : decode cX12_keyAt 95 = .ok (.iload_n 1, 1) := by decide +kernel
theorem dX12_keyAt_96 : decode cX12_keyAt 96 = .ok (.ireturn, 1) := by decide +kernel
theorem dX12_keyAt_97 : decode cX12_keyAt 97 = .ok (.ldc 74, 2) := by decide +kernel
theorem dX12_keyAt_99 : decode cX12_keyAt 99 = .ok (.iload_n 2, 1) := by decide +kernel
theorem dX12_keyAt_100 : decode cX12_keyAt 100 = .ok (.invokevirtual 82, 3) := by decide +kernel
theorem dX12_keyAt_103 : decode cX12_keyAt 103 = .ok (.bipush 32, 2) := by decide +kernel
theorem dX12_keyAt_105 : decode cX12_keyAt 105 = .ok (.if_icmp .eq 9, 3) := by decide +kernel
theorem dX12_keyAt_108 : decode cX12_keyAt 108 = .ok (.iinc 2 1, 3) := by decide +kernel
theorem dX12_keyAt_111 : decode cX12_keyAt 111 = .ok (.goto (-14), 3) := by decide +kernel
theorem dX12_keyAt_114 : decode cX12_keyAt 114 = .ok (.iinc 2 1, 3) := by decide +kernel
theorem dX12_keyAt_117 : decode cX12_keyAt 117 = .ok (.iinc 1 1, 3) := by decide +kernel
theorem dX12_keyAt_120 : decode cX12_keyAt 120 = .ok (.goto (-116), 3) := by decide +kernel
theorem dX12_keyAt_123 : decode cX12_keyAt 123 = .ok (.bipush 22, 2) := by decide +kernel
theorem dX12_keyAt_125 : decode cX12_keyAt 125 = .ok (.ireturn, 1) := by decide +kernel
theorem dX12_next_0 : decode cX12_next 0 = .ok (.aload_n 0, 1) := by decide +kernel
theorem dX12_next_1 : decode cX12_next 1 = .ok (.aload_n 0, 1) := by decide +kernel
theorem dX12_next_2 : decode cX12_next 2 = .ok (.getfield 89, 3) := by decide +kernel
theorem dX12_next_5 : decode cX12_next 5 = .ok (.putfield 86, 3) := by decide +kernel
theorem dX12_next_8 : decode cX12_next 8 = .ok (.aload_n 0, 1) := by decide +kernel
theorem dX12_next_9 : decode cX12_next 9 = .ok (.aload_n 0, 1) := by decide +kernel
theorem dX12_next_10 : decode cX12_next 10 = .ok (.getfield 86, 3) := by decide +kernel
theorem dX12_next_13 : decode cX12_next 13 = .ok (.invokevirtual 92, 3) := by decide +kernel
theorem dX12_next_16 : decode cX12_next 16 = .ok (.bipush 10, 2) := by decide +kernel
theorem dX12_next_18 : decode cX12_next 18 = .ok (.if_icmp .eq 16, 3) := by decide +kernel
theorem dX12_next_21 : decode cX12_next 21 = .ok (.aload_n 0, 1) := by decide +kernel
theorem dX12_next_22 : decode cX12_next 22 = .ok (.aload_n 0, 1) := by decide +kernel
theorem dX12_next_23 : decode cX12_next 23 = .ok (.getfield 86, 3) := by decide +kernel
theorem dX12_next_26 : decode cX12_next 26 = .ok (.invokevirtual 92, 3) := by decide +kernel
theorem dX12_next_29 : decode cX12_next 29 = .ok (.bipush 32, 2) := by decide +kernel
theorem dX12_next_31 : decode cX12_next 31 = .ok (.if_icmp .ne 16, 3) := by decide +kernel
theorem dX12_next_34 : decode cX12_next 34 = .ok (.aload_n 0, 1) := by decide +kernel
theorem dX12_next_35 : decode cX12_next 35 = .ok (.dup, 1) := by decide +kernel
theorem dX12_next_36 : decode cX12_next 36 = .ok (.getfield 86, 3) := by decide +kernel
theorem dX12_next_39 : decode cX12_next 39 = .ok (.iconst 1, 1) := by decide +kernel
theorem dX12_next_40 : decode cX12_next 40 = .ok (.iadd, 1) := by decide +kernel
theorem dX12_next_41 : decode cX12_next 41 = .ok (.putfield 86, 3) := by decide +kernel
theorem dX12_next_44 : decode cX12_next 44 = .ok (.goto (-36), 3) := by decide +kernel
theorem dX12_next_47 : decode cX12_next 47 = .ok (.aload_n 0, 1) := by decide +kernel
theorem dX12_next_48 : decode cX12_next 48 = .ok (.aload_n 0, 1) := by decide +kernel
theorem dX12_next_49 : decode cX12_next 49 = .ok (.getfield 86, 3) := by decide +kernel
theorem dX12_next_52 : decode cX12_next 52 = .ok (.putfield 89, 3) := by decide +kernel
theorem dX12_next_55 : decode cX12_next 55 = .ok (.aload_n 0, 1) := by decide +kernel
theorem dX12_next_56 : decode cX12_next 56 = .ok (.getfield 86, 3) := by decide +kernel
theorem dX12_next_59 : decode cX12_next 59 = .ok (.aload_n 0, 1) := by decide +kernel
theorem dX12_next_60 : decode cX12_next 60 = .ok (.getfield 71, 3) := by decide +kernel
theorem dX12_next_63 : decode cX12_next 63 = .ok (.if_icmp .lt 12, 3) := by decide +kernel
theorem dX12_next_66 : decode cX12_next 66 = .ok (.aload_n 0, 1) := by decide +kernel
theorem dX12_next_67 : decode cX12_next 67 = .ok (.bipush 24, 2) := by decide +kernel
theorem dX12_next_69 : decode cX12_next 69 = .ok (.putfield 96, 3) := by decide +kernel
theorem dX12_next_72 : decode cX12_next 72 = .ok (.goto 222, 3) := by decide +kernel
theorem dX12_next_75 : decode cX12_next 75 = .ok (.aload_n 0, 1) := by decide +kernel
theorem dX12_next_76 : decode cX12_next 76 = .ok (.aload_n 0, 1) := by decide +kernel
theorem dX12_next_77 : decode cX12_next 77 = .ok (.getfield 86, 3) := by decide +kernel
theorem dX12_next_80 : decode cX12_next 80 = .ok (.invokevirtual 92, 3) := by decide +kernel
theorem dX12_next_83 : decode cX12_next 83 = .ok (.invokestatic 99, 3) := by decide +kernel
theorem dX12_next_86 : decode cX12_next 86 = .ok (.ifCond .eq 41, 3) := by decide +kernel
theorem dX12_next_89 : decode cX12_next 89 = .ok (.aload_n 0, 1) := by decide +kernel
theorem dX12_next_90 : decode cX12_next 90 = .ok (.aload_n 0, 1) := by decide +kernel
theorem dX12_next_91 : decode cX12_next 91 = .ok (.getfield 89, 3) := by decide +kernel
theorem dX12_next_94 : decode cX12_next 94 = .ok (.invokevirtual 92, 3) := by decide +kernel
theorem dX12_next_97 : decode cX12_next 97 = .ok (.invokestatic 99, 3) := by decide +kernel
theorem dX12_next_100 : decode cX12_next 100 = .ok (.ifCond .eq 16, 3) := by decide +kernel
theorem dX12_next_103 : decode cX12_next 103 = .ok (.aload_n 0, 1) := by decide +kernel
theorem dX12_next_104 : decode cX12_next 104 = .ok (.dup, 1) := by decide +kernel
theorem dX12_next_105 : decode cX12_next 105 = .ok (.getfield 89, 3) := by decide +kernel
theorem dX12_next_108 : decode cX12_next 108 = .ok (.iconst 1, 1) := by decide +kernel
theorem dX12_next_109 : decode cX12_next 109 = .ok (.iadd, 1) := by decide +kernel
theorem dX12_next_110 : decode cX12_next 110 = .ok (.putfield 89, 3) := by decide +kernel
theorem dX12_next_113 : decode cX12_next 113 = .ok (.goto (-24), 3) := by decide +kernel
theorem dX12_next_116 : decode cX12_next 116 = .ok (.aload_n 0, 1) := by decide +kernel
theorem dX12_next_117 : decode cX12_next 117 = .ok (.aload_n 0, 1) := by decide +kernel
theorem dX12_next_118 : decode cX12_next 118 = .ok (.invokevirtual 103, 3) := by decide +kernel
theorem dX12_next_121 : decode cX12_next 121 = .ok (.putfield 96, 3) := by decide +kernel
theorem dX12_next_124 : decode cX12_next 124 = .ok (.goto 170, 3) := by decide +kernel
theorem dX12_next_127 : decode cX12_next 127 = .ok (.aload_n 0, 1) := by decide +kernel
theorem dX12_next_128 : decode cX12_next 128 = .ok (.aload_n 0, 1) := by decide +kernel
theorem dX12_next_129 : decode cX12_next 129 = .ok (.getfield 86, 3) := by decide +kernel
theorem dX12_next_132 : decode cX12_next 132 = .ok (.invokevirtual 92, 3) := by decide +kernel
theorem dX12_next_135 : decode cX12_next 135 = .ok (.invokestatic 106, 3) := by decide +kernel
theorem dX12_next_138 : decode cX12_next 138 = .ok (.ifCond .eq 98, 3) := by decide +kernel
theorem dX12_next_141 : decode cX12_next 141 = .ok (.aload_n 0, 1) := by decide +kernel
theorem dX12_next_142 : decode cX12_next 142 = .ok (.iconst 0, 1) := by decide +kernel
theorem dX12_next_143 : decode cX12_next 143 = .ok (.putfield 109, 3) := by decide +kernel
theorem dX12_next_146 : decode cX12_next 146 = .ok (.aload_n 0, 1) := by decide +kernel
theorem dX12_next_147 : decode cX12_next 147 = .ok (.aload_n 0, 1) := by decide +kernel
theorem dX12_next_148 : decode cX12_next 148 = .ok (.getfield 89, 3) := by decide +kernel
theorem dX12_next_151 : decode cX12_next 151 = .ok (.invokevirtual 92, 3) := by decide +kernel
theorem dX12_next_154 : decode cX12_next 154 = .ok (.invokestatic 106, 3) := by decide +kernel
theorem dX12_next_157 : decode cX12_next 157 = .ok (.ifCond .eq 52, 3) := by decide +kernel
theorem dX12_next_160 : decode cX12_next 160 = .ok (.aload_n 0, 1) := by decide +kernel
theorem dX12_next_161 : decode cX12_next 161 = .ok (.getfield 89, 3) := by decide +kernel
theorem dX12_next_164 : decode cX12_next 164 = .ok (.aload_n 0, 1) := by decide +kernel
theorem dX12_next_165 : decode cX12_next 165 = .ok (.getfield 86, 3) := by decide +kernel
theorem dX12_next_168 : decode cX12_next 168 = .ok (.isub, 1) := by decide +kernel
theorem dX12_next_169 : decode cX12_next 169 = .ok (.iconst 3, 1) := by decide +kernel
theorem dX12_next_170 : decode cX12_next 170 = .ok (.if_icmp .ge 26, 3) := by decide +kernel
theorem dX12_next_173 : decode cX12_next 173 = .ok (.aload_n 0, 1) := by decide +kernel
theorem dX12_next_174 : decode cX12_next 174 = .ok (.bipush 10, 2) := by decide +kernel
theorem dX12_next_176 : decode cX12_next 176 = .ok (.aload_n 0, 1) := by decide +kernel
theorem dX12_next_177 : decode cX12_next 177 = .ok (.getfield 109, 3) := by decide +kernel
theorem dX12_next_180 : decode cX12_next 180 = .ok (.imul, 1) := by decide +kernel
theorem dX12_next_181 : decode cX12_next 181 = .ok (.aload_n 0, 1) := by decide +kernel
theorem dX12_next_182 : decode cX12_next 182 = .ok (.aload_n 0, 1) := by decide +kernel
theorem dX12_next_183 : decode cX12_next 183 = .ok (.getfield 89, 3) := by decide +kernel
theorem dX12_next_186 : decode cX12_next 186 = .ok (.invokevirtual 92, 3) := by decide +kernel
theorem dX12_next_189 : decode cX12_next 189 = .ok (.iadd, 1) := by decide +kernel
theorem dX12_next_190 : decode cX12_next 190 = .ok (.bipush 48, 2) := by decide +kernel
theorem dX12_next_192 : decode cX12_next 192 = .ok (.isub, 1) := by decide +kernel
theorem dX12_next_193 : decode cX12_next 193 = .ok (.putfield 109, 3) := by decide +kernel
theorem dX12_next_196 : decode cX12_next 196 = .ok (.aload_n 0, 1) := by decide +kernel
theorem dX12_next_197 : decode cX12_next 197 = .ok (.dup, 1) := by decide +kernel
theorem dX12_next_198 : decode cX12_next 198 = .ok (.getfield 89, 3) := by decide +kernel
theorem dX12_next_201 : decode cX12_next 201 = .ok (.iconst 1, 1) := by decide +kernel
theorem dX12_next_202 : decode cX12_next 202 = .ok (.iadd, 1) := by decide +kernel
theorem dX12_next_203 : decode cX12_next 203 = .ok (.putfield 89, 3) := by decide +kernel
theorem dX12_next_206 : decode cX12_next 206 = .ok (.goto (-60), 3) := by decide +kernel
theorem dX12_next_209 : decode cX12_next 209 = .ok (.aload_n 0, 1) := by decide +kernel
theorem dX12_next_210 : decode cX12_next 210 = .ok (.aload_n 0, 1) := by decide +kernel
theorem dX12_next_211 : decode cX12_next 211 = .ok (.getfield 89, 3) := by decide +kernel
theorem dX12_next_214 : decode cX12_next 214 = .ok (.aload_n 0, 1) := by decide +kernel
theorem dX12_next_215 : decode cX12_next 215 = .ok (.getfield 86, 3) := by decide +kernel
theorem dX12_next_218 : decode cX12_next 218 = .ok (.isub, 1) := by decide +kernel
theorem dX12_next_219 : decode cX12_next 219 = .ok (.iconst 3, 1) := by decide +kernel
theorem dX12_next_220 : decode cX12_next 220 = .ok (.if_icmp .le 8, 3) := by decide +kernel
theorem dX12_next_223 : decode cX12_next 223 = .ok (.bipush 25, 2) := by decide +kernel
theorem dX12_next_225 : decode cX12_next 225 = .ok (.goto 5, 3) := by decide +kernel
theorem dX12_next_228 : decode cX12_next 228 = .ok (.bipush 23, 2) := by decide +kernel
theorem dX12_next_230 : decode cX12_next 230 = .ok (.putfield 96, 3) := by decide +kernel
theorem dX12_next_233 : decode cX12_next 233 = .ok (.goto 61, 3) := by decide +kernel
theorem dX12_next_236 : decode cX12_next 236 = .ok (.aload_n 0, 1) := by decide +kernel
theorem dX12_next_237 : decode cX12_next 237 = .ok (.dup, 1) := by decide +kernel
theorem dX12_next_238 : decode cX12_next 238 = .ok (.getfield 89, 3) := by decide +kernel
theorem dX12_next_241 : decode cX12_next 241 = .ok (.iconst 1, 1) := by decide +kernel
theorem dX12_next_242 : decode cX12_next 242 = .ok (.iadd, 1) := by decide +kernel
theorem dX12_next_243 : decode cX12_next 243 = .ok (.putfield 89, 3) := by decide +kernel
theorem dX12_next_246 : decode cX12_next 246 = .ok (.aload_n 0, 1) := by decide +kernel
theorem dX12_next_247 : decode cX12_next 247 = .ok (.bipush 25, 2) := by decide +kernel
theorem dX12_next_249 : decode cX12_next 249 = .ok (.putfield 96, 3) := by decide +kernel
theorem dX12_next_252 : decode cX12_next 252 = .ok (.iconst 0, 1) := by decide +kernel
theorem dX12_next_253 : decode cX12_next 253 = .ok (.istore_n 1, 1) := by decide +kernel
theorem dX12_next_254 : decode cX12_next 254 = .ok (.iload_n 1, 1) := by decide +kernel
theorem dX12_next_255 : decode cX12_next 255 = .ok (.ldc 112, 2) := by decide +kernel
theorem dX12_next_257 : decode cX12_next 257 = .ok (.invokevirtual 76, 3) := by decide +kernel
theorem dX12_next_260 : decode cX12_next 260 = .ok (.if_icmp .ge 34, 3) := by decide +kernel
theorem dX12_next_263 : decode cX12_next 263 = .ok (.aload_n 0, 1) := by decide +kernel
theorem dX12_next_264 : decode cX12_next 264 = .ok (.aload_n 0, 1) := by decide +kernel
theorem dX12_next_265 : decode cX12_next 265 = .ok (.getfield 86, 3) := by decide +kernel
theorem dX12_next_268 : decode cX12_next 268 = .ok (.invokevirtual 92, 3) := by decide +kernel
theorem dX12_next_271 : decode cX12_next 271 = .ok (.ldc 112, 2) := by decide +kernel
theorem dX12_next_273 : decode cX12_next 273 = .ok (.iload_n 1, 1) := by decide +kernel
theorem dX12_next_274 : decode cX12_next 274 = .ok (.invokevirtual 82, 3) := by decide +kernel
theorem dX12_next_277 : decode cX12_next 277 = .ok (.if_icmp .ne 11, 3) := by decide +kernel
theorem dX12_next_280 : decode cX12_next 280 = .ok (.aload_n 0, 1) := by decide +kernel
theorem dX12_next_281 : decode cX12_next 281 = .ok (.bipush 30, 2) := by decide +kernel
theorem dX12_next_283 : decode cX12_next 283 = .ok (.iload_n 1, 1) := by decide +kernel
theorem dX12_next_284 : decode cX12_next 284 = .ok (.iadd, 1) := by decide +kernel
theorem dX12_next_285 : decode cX12_next 285 = .ok (.putfield 96, 3) := by decide +kernel
theorem dX12_next_288 : decode cX12_next 288 = .ok (.iinc 1 1, 3) := by decide +kernel
theorem dX12_next_291 : decode cX12_next 291 = .ok (.goto (-37), 3) := by decide +kernel
theorem dX12_next_294 : decode cX12_next 294 = .ok (.return_, 1) := by decide +kernel
theorem dX12_fails_0 : decode cX12_fails 0 = .ok (.aload_n 0, 1) := by decide +kernel
theorem dX12_fails_1 : decode cX12_fails 1 = .ok (.getfield 114, 3) := by decide +kernel
theorem dX12_fails_4 : decode cX12_fails 4 = .ok (.ifCond .eq 4, 3) := by decide +kernel
theorem dX12_fails_7 : decode cX12_fails 7 = .ok (.return_, 1) := by decide +kernel
theorem dX12_fails_8 : decode cX12_fails 8 = .ok (.aload_n 0, 1) := by decide +kernel
theorem dX12_fails_9 : decode cX12_fails 9 = .ok (.aload_n 0, 1) := by decide +kernel
theorem dX12_fails_10 : decode cX12_fails 10 = .ok (.getfield 96, 3) := by decide +kernel
theorem dX12_fails_13 : decode cX12_fails 13 = .ok (.bipush 25, 2) := by decide +kernel
theorem dX12_fails_15 : decode cX12_fails 15 = .ok (.if_icmp .ne 7, 3) := by decide +kernel
theorem dX12_fails_18 : decode cX12_fails 18 = .ok (.iconst 1, 1) := by decide +kernel
theorem dX12_fails_19 : decode cX12_fails 19 = .ok (.goto 4, 3) := by decide +kernel
theorem dX12_fails_22 : decode cX12_fails 22 = .ok (.iload_n 1, 1) := by decide +kernel
theorem dX12_fails_23 : decode cX12_fails 23 = .ok (.putfield 114, 3) := by decide +kernel
theorem dX12_fails_26 : decode cX12_fails 26 = .ok (.aload_n 0, 1) := by decide +kernel
theorem dX12_fails_27 : decode cX12_fails 27 = .ok (.aload_n 0, 1) := by decide +kernel
theorem dX12_fails_28 : decode cX12_fails 28 = .ok (.getfield 86, 3) := by decide +kernel
theorem dX12_fails_31 : decode cX12_fails 31 = .ok (.putfield 117, 3) := by decide +kernel
theorem dX12_fails_34 : decode cX12_fails 34 = .ok (.return_, 1) := by decide +kernel
theorem dX12_is_0 : decode cX12_is 0 = .ok (.aload_n 0, 1) := by decide +kernel
theorem dX12_is_1 : decode cX12_is 1 = .ok (.getfield 114, 3) := by decide +kernel
theorem dX12_is_4 : decode cX12_is 4 = .ok (.ifCond .ne 15, 3) := by decide +kernel
theorem dX12_is_7 : decode cX12_is 7 = .ok (.aload_n 0, 1) := by decide +kernel
theorem dX12_is_8 : decode cX12_is 8 = .ok (.getfield 96, 3) := by decide +kernel
theorem dX12_is_11 : decode cX12_is 11 = .ok (.iload_n 1, 1) := by decide +kernel
theorem dX12_is_12 : decode cX12_is 12 = .ok (.if_icmp .ne 7, 3) := by decide +kernel
theorem dX12_is_15 : decode cX12_is 15 = .ok (.iconst 1, 1) := by decide +kernel
theorem dX12_is_16 : decode cX12_is 16 = .ok (.goto 4, 3) := by decide +kernel
theorem dX12_is_19 : decode cX12_is 19 = .ok (.iconst 0, 1) := by decide +kernel
theorem dX12_is_20 : decode cX12_is 20 = .ok (.ireturn, 1) := by decide +kernel
theorem dX12_eats_0 : decode cX12_eats 0 = .ok (.aload_n 0, 1) := by decide +kernel
theorem dX12_eats_1 : decode cX12_eats 1 = .ok (.iload_n 1, 1) := by decide +kernel
theorem dX12_eats_2 : decode cX12_eats 2 = .ok (.invokevirtual 120, 3) := by decide +kernel
theorem dX12_eats_5 : decode cX12_eats 5 = .ok (.ifCond .ne 5, 3) := by decide +kernel
theorem dX12_eats_8 : decode cX12_eats 8 = .ok (.iconst 0, 1) := by decide +kernel
theorem dX12_eats_9 : decode cX12_eats 9 = .ok (.ireturn, 1) := by decide +kernel
theorem dX12_eats_10 : decode cX12_eats 10 = .ok (.aload_n 0, 1) := by decide +kernel
theorem dX12_eats_11 : decode cX12_eats 11 = .ok (.invokevirtual 123, 3) := by decide +kernel
theorem dX12_eats_14 : decode cX12_eats 14 = .ok (.iconst 1, 1) := by decide +kernel
theorem dX12_eats_15 : decode cX12_eats 15 = .ok (.ireturn, 1) := by decide +kernel
theorem dX12_takes_0 : decode cX12_takes 0 = .ok (.aload_n 0, 1) := by decide +kernel
theorem dX12_takes_1 : decode cX12_takes 1 = .ok (.bipush 23, 2) := by decide +kernel
theorem dX12_takes_3 : decode cX12_takes 3 = .ok (.invokevirtual 120, 3) := by decide +kernel
theorem dX12_takes_6 : decode cX12_takes 6 = .ok (.ifCond .ne 11, 3) := by decide +kernel
theorem dX12_takes_9 : decode cX12_takes 9 = .ok (.aload_n 0, 1) := by decide +kernel
theorem dX12_takes_10 : decode cX12_takes 10 = .ok (.iconst 2, 1) := by decide +kernel
theorem dX12_takes_11 : decode cX12_takes 11 = .ok (.invokevirtual 126, 3) := by decide +kernel
theorem dX12_takes_14 : decode cX12_takes 14 = .ok (.goto 23, 3) := by decide +kernel
theorem dX12_takes_17 : decode cX12_takes 17 = .ok (.aload_n 0, 1) := by decide +kernel
theorem dX12_takes_18 : decode cX12_takes 18 = .ok (.getfield 109, 3) := by decide +kernel
theorem dX12_takes_21 : decode cX12_takes 21 = .ok (.i2l, 1) := by decide +kernel
theorem dX12_takes_22 : decode cX12_takes 22 = .ok (.iload_n 1, 1) := by decide +kernel
theorem dX12_takes_23 : decode cX12_takes 23 = .ok (.i2l, 1) := by decide +kernel
theorem dX12_takes_24 : decode cX12_takes 24 = .ok (.iload_n 2, 1) := by decide +kernel
theorem dX12_takes_25 : decode cX12_takes 25 = .ok (.i2l, 1) := by decide +kernel
theorem dX12_takes_26 : decode cX12_takes 26 = .ok (.invokestatic 130, 3) := by decide +kernel
theorem dX12_takes_29 : decode cX12_takes 29 = .ok (.ifCond .ne 8, 3) := by decide +kernel
theorem dX12_takes_32 : decode cX12_takes 32 = .ok (.aload_n 0, 1) := by decide +kernel
theorem dX12_takes_33 : decode cX12_takes 33 = .ok (.iconst 3, 1) := by decide +kernel
theorem dX12_takes_34 : decode cX12_takes 34 = .ok (.invokevirtual 126, 3) := by decide +kernel
theorem dX12_takes_37 : decode cX12_takes 37 = .ok (.aload_n 0, 1) := by decide +kernel
theorem dX12_takes_38 : decode cX12_takes 38 = .ok (.getfield 109, 3) := by decide +kernel
theorem dX12_takes_41 : decode cX12_takes 41 = .ok (.istore_n 3, 1) := by decide +kernel
theorem dX12_takes_42 : decode cX12_takes 42 = .ok (.aload_n 0, 1) := by decide +kernel
theorem dX12_takes_43 : decode cX12_takes 43 = .ok (.getfield 114, 3) := by decide +kernel
theorem dX12_takes_46 : decode cX12_takes 46 = .ok (.ifCond .ne 7, 3) := by decide +kernel
theorem dX12_takes_49 : decode cX12_takes 49 = .ok (.aload_n 0, 1) := by decide +kernel
theorem dX12_takes_50 : decode cX12_takes 50 = .ok (.invokevirtual 123, 3) := by decide +kernel
theorem dX12_takes_53 : decode cX12_takes 53 = .ok (.iload_n 3, 1) := by decide +kernel
theorem dX12_takes_54 : decode cX12_takes 54 = .ok (.ireturn, 1) := by decide +kernel
theorem dX12_isIn_0 : decode cX12_isIn 0 = .ok (.lload_n 0, 1) := by decide +kernel
theorem dX12_isIn_1 : decode cX12_isIn 1 = .ok (.iload_n 2, 1) := by decide +kernel
theorem dX12_isIn_2 : decode cX12_isIn 2 = .ok (.lshr, 1) := by decide +kernel
theorem dX12_isIn_3 : decode cX12_isIn 3 = .ok (.lconst 1, 1) := by decide +kernel
theorem dX12_isIn_4 : decode cX12_isIn 4 = .ok (.land, 1) := by decide +kernel
theorem dX12_isIn_5 : decode cX12_isIn 5 = .ok (.lconst 1, 1) := by decide +kernel
theorem dX12_isIn_6 : decode cX12_isIn 6 = .ok (.lcmp, 1) := by decide +kernel
theorem dX12_isIn_7 : decode cX12_isIn 7 = .ok (.ifCond .ne 7, 3) := by decide +kernel
theorem dX12_isIn_10 : decode cX12_isIn 10 = .ok (.iconst 1, 1) := by decide +kernel
theorem dX12_isIn_11 : decode cX12_isIn 11 = .ok (.goto 4, 3) := by decide +kernel
theorem dX12_isIn_14 : decode cX12_isIn 14 = .ok (.iconst 0, 1) := by decide +kernel
theorem dX12_isIn_15 : decode cX12_isIn 15 = .ok (.ireturn, 1) := by decide +kernel
theorem dX12_wordOf_0 : decode cX12_wordOf 0 = .ok (.iload_n 1, 1) := by decide +kernel
theorem dX12_wordOf_1 : decode cX12_wordOf 1 = .ok (.bipush 12, 2) := by decide +kernel
theorem dX12_wordOf_3 : decode cX12_wordOf 3 = .ok (.if_icmp .ne 5, 3) := by decide +kernel
theorem dX12_wordOf_6 : decode cX12_wordOf 6 = .ok (.iconst 0, 1) := by decide +kernel
theorem dX12_wordOf_7 : decode cX12_wordOf 7 = .ok (.ireturn, 1) := by decide +kernel
theorem dX12_wordOf_8 : decode cX12_wordOf 8 = .ok (.iload_n 1, 1) := by decide +kernel
theorem dX12_wordOf_9 : decode cX12_wordOf 9 = .ok (.bipush 11, 2) := by decide +kernel
theorem dX12_wordOf_11 : decode cX12_wordOf 11 = .ok (.if_icmp .ne 5, 3) := by decide +kernel
theorem dX12_wordOf_14 : decode cX12_wordOf 14 = .ok (.iconst 1, 1) := by decide +kernel
theorem dX12_wordOf_15 : decode cX12_wordOf 15 = .ok (.ireturn, 1) := by decide +kernel
theorem dX12_wordOf_16 : decode cX12_wordOf 16 = .ok (.aload_n 0, 1) := by decide +kernel
theorem dX12_wordOf_17 : decode cX12_wordOf 17 = .ok (.getfield 134, 3) := by decide +kernel
theorem dX12_wordOf_20 : decode cX12_wordOf 20 = .ok (.ifCond .ne 15, 3) := by decide +kernel
theorem dX12_wordOf_23 : decode cX12_wordOf 23 = .ok (.iload_n 1, 1) := by decide +kernel
theorem dX12_wordOf_24 : decode cX12_wordOf 24 = .ok (.bipush 13, 2) := by decide +kernel
theorem dX12_wordOf_26 : decode cX12_wordOf 26 = .ok (.if_icmp .ne 7, 3) := by decide +kernel
theorem dX12_wordOf_29 : decode cX12_wordOf 29 = .ok (.iconst 2, 1) := by decide +kernel
theorem dX12_wordOf_30 : decode cX12_wordOf 30 = .ok (.goto 4, 3) := by decide +kernel
theorem dX12_wordOf_33 : decode cX12_wordOf 33 = .ok (.iconst (-1), 1) := by decide +kernel
theorem dX12_wordOf_34 : decode cX12_wordOf 34 = .ok (.ireturn, 1) := by decide +kernel
theorem dX12_wordOf_35 : decode cX12_wordOf 35 = .ok (.aload_n 0, 1) := by decide +kernel
theorem dX12_wordOf_36 : decode cX12_wordOf 36 = .ok (.getfield 134, 3) := by decide +kernel
theorem dX12_wordOf_39 : decode cX12_wordOf 39 = .ok (.iconst 1, 1) := by decide +kernel
theorem dX12_wordOf_40 : decode cX12_wordOf 40 = .ok (.if_icmp .ne 34, 3) := by decide +kernel
theorem dX12_wordOf_43 : decode cX12_wordOf 43 = .ok (.iload_n 1, 1) := by decide +kernel
theorem dX12_wordOf_44 : decode cX12_wordOf 44 = .ok (.bipush 14, 2) := by decide +kernel
theorem dX12_wordOf_46 : decode cX12_wordOf 46 = .ok (.if_icmp .ne 7, 3) := by decide +kernel
theorem dX12_wordOf_49 : decode cX12_wordOf 49 = .ok (.iconst 3, 1) := by decide +kernel
theorem dX12_wordOf_50 : decode cX12_wordOf 50 = .ok (.goto 23, 3) := by decide +kernel
theorem dX12_wordOf_53 : decode cX12_wordOf 53 = .ok (.iload_n 1, 1) := by decide +kernel
theorem dX12_wordOf_54 : decode cX12_wordOf 54 = .ok (.bipush 15, 2) := by decide +kernel
theorem dX12_wordOf_56 : decode cX12_wordOf 56 = .ok (.if_icmp .ne 7, 3) := by decide +kernel
theorem dX12_wordOf_59 : decode cX12_wordOf 59 = .ok (.iconst 4, 1) := by decide +kernel
theorem dX12_wordOf_60 : decode cX12_wordOf 60 = .ok (.goto 13, 3) := by decide +kernel
theorem dX12_wordOf_63 : decode cX12_wordOf 63 = .ok (.iload_n 1, 1) := by decide +kernel
theorem dX12_wordOf_64 : decode cX12_wordOf 64 = .ok (.iconst 2, 1) := by decide +kernel
theorem dX12_wordOf_65 : decode cX12_wordOf 65 = .ok (.if_icmp .ne 7, 3) := by decide +kernel
theorem dX12_wordOf_68 : decode cX12_wordOf 68 = .ok (.iconst 5, 1) := by decide +kernel
theorem dX12_wordOf_69 : decode cX12_wordOf 69 = .ok (.goto 4, 3) := by decide +kernel
theorem dX12_wordOf_72 : decode cX12_wordOf 72 = .ok (.iconst (-1), 1) := by decide +kernel
theorem dX12_wordOf_73 : decode cX12_wordOf 73 = .ok (.ireturn, 1) := by decide +kernel
theorem dX12_wordOf_74 : decode cX12_wordOf 74 = .ok (.iload_n 1, 1) := by decide +kernel
theorem dX12_wordOf_75 : decode cX12_wordOf 75 = .ok (.bipush 16, 2) := by decide +kernel
theorem dX12_wordOf_77 : decode cX12_wordOf 77 = .ok (.if_icmp .ne 8, 3) := by decide +kernel
theorem dX12_wordOf_80 : decode cX12_wordOf 80 = .ok (.bipush 6, 2) := by decide +kernel
theorem dX12_wordOf_82 : decode cX12_wordOf 82 = .ok (.goto 26, 3) := by decide +kernel
theorem dX12_wordOf_85 : decode cX12_wordOf 85 = .ok (.iload_n 1, 1) := by decide +kernel
theorem dX12_wordOf_86 : decode cX12_wordOf 86 = .ok (.bipush 17, 2) := by decide +kernel
theorem dX12_wordOf_88 : decode cX12_wordOf 88 = .ok (.if_icmp .ne 8, 3) := by decide +kernel
theorem dX12_wordOf_91 : decode cX12_wordOf 91 = .ok (.bipush 7, 2) := by decide +kernel
theorem dX12_wordOf_93 : decode cX12_wordOf 93 = .ok (.goto 15, 3) := by decide +kernel
theorem dX12_wordOf_96 : decode cX12_wordOf 96 = .ok (.iload_n 1, 1) := by decide +kernel
theorem dX12_wordOf_97 : decode cX12_wordOf 97 = .ok (.bipush 18, 2) := by decide +kernel
theorem dX12_wordOf_99 : decode cX12_wordOf 99 = .ok (.if_icmp .ne 8, 3) := by decide +kernel
theorem dX12_wordOf_102 : decode cX12_wordOf 102 = .ok (.bipush 8, 2) := by decide +kernel
theorem dX12_wordOf_104 : decode cX12_wordOf 104 = .ok (.goto 4, 3) := by decide +kernel
theorem dX12_wordOf_107 : decode cX12_wordOf 107 = .ok (.iconst (-1), 1) := by decide +kernel
theorem dX12_wordOf_108 : decode cX12_wordOf 108 = .ok (.ireturn, 1) := by decide +kernel
theorem dX12_codes_0 : decode cX12_codes 0 = .ok (.aload_n 0, 1) := by decide +kernel
theorem dX12_codes_1 : decode cX12_codes 1 = .ok (.getfield 114, 3) := by decide +kernel
theorem dX12_codes_4 : decode cX12_codes 4 = .ok (.ifCond .eq 4, 3) := by decide +kernel
theorem dX12_codes_7 : decode cX12_codes 7 = .ok (.return_, 1) := by decide +kernel
theorem dX12_codes_8 : decode cX12_codes 8 = .ok (.aload_n 0, 1) := by decide +kernel
theorem dX12_codes_9 : decode cX12_codes 9 = .ok (.getfield 24, 3) := by decide +kernel
theorem dX12_codes_12 : decode cX12_codes 12 = .ok (.sipush 1342, 3) := by decide +kernel
theorem dX12_codes_15 : decode cX12_codes 15 = .ok (.aload_n 0, 1) := by decide +kernel
theorem dX12_codes_16 : decode cX12_codes 16 = .ok (.getfield 24, 3) := by decide +kernel
theorem dX12_codes_19 : decode cX12_codes 19 = .ok (.sipush 1341, 3) := by decide +kernel
theorem dX12_codes_22 : decode cX12_codes 22 = .ok (.iaload, 1) := by decide +kernel
theorem dX12_codes_23 : decode cX12_codes 23 = .ok (.iadd, 1) := by decide +kernel
theorem dX12_codes_24 : decode cX12_codes 24 = .ok (.iload_n 1, 1) := by decide +kernel
theorem dX12_codes_25 : decode cX12_codes 25 = .ok (.iastore, 1) := by decide +kernel
theorem dX12_codes_26 : decode cX12_codes 26 = .ok (.aload_n 0, 1) := by decide +kernel
theorem dX12_codes_27 : decode cX12_codes 27 = .ok (.getfield 24, 3) := by decide +kernel
theorem dX12_codes_30 : decode cX12_codes 30 = .ok (.sipush 1341, 3) := by decide +kernel
theorem dX12_codes_33 : decode cX12_codes 33 = .ok (.dup2, 1) := by decide +kernel
theorem dX12_codes_34 : decode cX12_codes 34 = .ok (.iaload, 1) := by decide +kernel
theorem dX12_codes_35 : decode cX12_codes 35 = .ok (.iconst 1, 1) := by decide +kernel
theorem dX12_codes_36 : decode cX12_codes 36 = .ok (.iadd, 1) := by decide +kernel
theorem dX12_codes_37 : decode cX12_codes 37 = .ok (.iastore, 1) := by decide +kernel
theorem dX12_codes_38 : decode cX12_codes 38 = .ok (.return_, 1) := by decide +kernel
theorem dX12_goesIn_0 : decode cX12_goesIn 0 = .ok (.iload_n 1, 1) := by decide +kernel
theorem dX12_goesIn_1 : decode cX12_goesIn 1 = .ok (.bipush 6, 2) := by decide +kernel
theorem dX12_goesIn_3 : decode cX12_goesIn 3 = .ok (.if_icmp .ne 8, 3) := by decide +kernel
theorem dX12_goesIn_6 : decode cX12_goesIn 6 = .ok (.aload_n 0, 1) := by decide +kernel
theorem dX12_goesIn_7 : decode cX12_goesIn 7 = .ok (.iconst 4, 1) := by decide +kernel
theorem dX12_goesIn_8 : decode cX12_goesIn 8 = .ok (.invokevirtual 126, 3) := by decide +kernel
theorem dX12_goesIn_11 : decode cX12_goesIn 11 = .ok (.aload_n 0, 1) := by decide +kernel
theorem dX12_goesIn_12 : decode cX12_goesIn 12 = .ok (.getfield 114, 3) := by decide +kernel
theorem dX12_goesIn_15 : decode cX12_goesIn 15 = .ok (.ifCond .ne 7, 3) := by decide +kernel
theorem dX12_goesIn_18 : decode cX12_goesIn 18 = .ok (.aload_n 0, 1) := by decide +kernel
theorem dX12_goesIn_19 : decode cX12_goesIn 19 = .ok (.invokevirtual 123, 3) := by decide +kernel
theorem dX12_goesIn_22 : decode cX12_goesIn 22 = .ok (.aload_n 0, 1) := by decide +kernel
theorem dX12_goesIn_23 : decode cX12_goesIn 23 = .ok (.getfield 114, 3) := by decide +kernel
theorem dX12_goesIn_26 : decode cX12_goesIn 26 = .ok (.ifCond .ne 7, 3) := by decide +kernel
theorem dX12_goesIn_29 : decode cX12_goesIn 29 = .ok (.iconst 1, 1) := by decide +kernel
theorem dX12_goesIn_30 : decode cX12_goesIn 30 = .ok (.goto 4, 3) := by decide +kernel
theorem dX12_goesIn_33 : decode cX12_goesIn 33 = .ok (.iconst 0, 1) := by decide +kernel
theorem dX12_goesIn_34 : decode cX12_goesIn 34 = .ok (.ireturn, 1) := by decide +kernel
theorem dX12_readAtom_0 : decode cX12_readAtom 0 = .ok (.aload_n 0, 1) := by decide +kernel
theorem dX12_readAtom_1 : decode cX12_readAtom 1 = .ok (.bipush 23, 2) := by decide +kernel
theorem dX12_readAtom_3 : decode cX12_readAtom 3 = .ok (.invokevirtual 120, 3) := by decide +kernel
theorem dX12_readAtom_6 : decode cX12_readAtom 6 = .ok (.ifCond .eq 18, 3) := by decide +kernel
theorem dX12_readAtom_9 : decode cX12_readAtom 9 = .ok (.aload_n 0, 1) := by decide +kernel
theorem dX12_readAtom_10 : decode cX12_readAtom 10 = .ok (.aload_n 0, 1) := by decide +kernel
theorem dX12_readAtom_11 : decode cX12_readAtom 11 = .ok (.getfield 109, 3) := by decide +kernel
theorem dX12_readAtom_14 : decode cX12_readAtom 14 = .ok (.invokevirtual 137, 3) := by decide +kernel
theorem dX12_readAtom_17 : decode cX12_readAtom 17 = .ok (.aload_n 0, 1) := by decide +kernel
theorem dX12_readAtom_18 : decode cX12_readAtom 18 = .ok (.invokevirtual 123, 3) := by decide +kernel
theorem dX12_readAtom_21 : decode cX12_readAtom 21 = .ok (.goto 92, 3) := by decide +kernel
theorem dX12_readAtom_24 : decode cX12_readAtom 24 = .ok (.aload_n 0, 1) := by decide +kernel
theorem dX12_readAtom_25 : decode cX12_readAtom 25 = .ok (.getfield 114, 3) := by decide +kernel
theorem dX12_readAtom_28 : decode cX12_readAtom 28 = .ok (.ifCond .ne 38, 3) := by decide +kernel
theorem dX12_readAtom_31 : decode cX12_readAtom 31 = .ok (.aload_n 0, 1) := by decide +kernel
theorem dX12_readAtom_32 : decode cX12_readAtom 32 = .ok (.aload_n 0, 1) := by decide +kernel
theorem dX12_readAtom_33 : decode cX12_readAtom 33 = .ok (.getfield 96, 3) := by decide +kernel
theorem dX12_readAtom_36 : decode cX12_readAtom 36 = .ok (.invokevirtual 140, 3) := by decide +kernel
theorem dX12_readAtom_39 : decode cX12_readAtom 39 = .ok (.iconst (-1), 1) := by decide +kernel
theorem dX12_readAtom_40 : decode cX12_readAtom 40 = .ok (.if_icmp .eq 26, 3) := by decide +kernel
theorem dX12_readAtom_43 : decode cX12_readAtom 43 = .ok (.aload_n 0, 1) := by decide +kernel
theorem dX12_readAtom_44 : decode cX12_readAtom 44 = .ok (.sipush 1000, 3) := by decide +kernel
theorem dX12_readAtom_47 : decode cX12_readAtom 47 = .ok (.aload_n 0, 1) := by decide +kernel
theorem dX12_readAtom_48 : decode cX12_readAtom 48 = .ok (.aload_n 0, 1) := by decide +kernel
theorem dX12_readAtom_49 : decode cX12_readAtom 49 = .ok (.getfield 96, 3) := by decide +kernel
theorem dX12_readAtom_52 : decode cX12_readAtom 52 = .ok (.invokevirtual 140, 3) := by decide +kernel
theorem dX12_readAtom_55 : decode cX12_readAtom 55 = .ok (.iadd, 1) := by decide +kernel
theorem dX12_readAtom_56 : decode cX12_readAtom 56 = .ok (.invokevirtual 137, 3) := by decide +kernel
theorem dX12_readAtom_59 : decode cX12_readAtom 59 = .ok (.aload_n 0, 1) := by decide +kernel
theorem dX12_readAtom_60 : decode cX12_readAtom 60 = .ok (.invokevirtual 123, 3) := by decide +kernel
theorem dX12_readAtom_63 : decode cX12_readAtom 63 = .ok (.goto 50, 3) := by decide +kernel
theorem dX12_readAtom_66 : decode cX12_readAtom 66 = .ok (.aload_n 0, 1) := by decide +kernel
theorem dX12_readAtom_67 : decode cX12_readAtom 67 = .ok (.bipush 35, 2) := by decide +kernel
theorem dX12_readAtom_69 : decode cX12_readAtom 69 = .ok (.invokevirtual 120, 3) := by decide +kernel
theorem dX12_readAtom_72 : decode cX12_readAtom 72 = .ok (.ifCond .eq 36, 3) := by decide +kernel
theorem dX12_readAtom_75 : decode cX12_readAtom 75 = .ok (.aload_n 0, 1) := by decide +kernel
theorem dX12_readAtom_76 : decode cX12_readAtom 76 = .ok (.iload_n 1, 1) := by decide +kernel
theorem dX12_readAtom_77 : decode cX12_readAtom 77 = .ok (.invokevirtual 143, 3) := by decide +kernel
theorem dX12_readAtom_80 : decode cX12_readAtom 80 = .ok (.ifCond .ne 4, 3) := by decide +kernel
theorem dX12_readAtom_83 : decode cX12_readAtom 83 = .ok (.return_, 1) := by decide +kernel
theorem dX12_readAtom_84 : decode cX12_readAtom 84 = .ok (.aload_n 0, 1) := by decide +kernel
theorem dX12_readAtom_85 : decode cX12_readAtom 85 = .ok (.iload_n 1, 1) := by decide +kernel
theorem dX12_readAtom_86 : decode cX12_readAtom 86 = .ok (.iconst 1, 1) := by decide +kernel
theorem dX12_readAtom_87 : decode cX12_readAtom 87 = .ok (.iadd, 1) := by decide +kernel
theorem dX12_readAtom_88 : decode cX12_readAtom 88 = .ok (.invokevirtual 146, 3) := by decide +kernel
theorem dX12_readAtom_91 : decode cX12_readAtom 91 = .ok (.aload_n 0, 1) := by decide +kernel
theorem dX12_readAtom_92 : decode cX12_readAtom 92 = .ok (.bipush 36, 2) := by decide +kernel
theorem dX12_readAtom_94 : decode cX12_readAtom 94 = .ok (.invokevirtual 149, 3) := by decide +kernel
theorem dX12_readAtom_97 : decode cX12_readAtom 97 = .ok (.ifCond .ne 16, 3) := by decide +kernel
theorem dX12_readAtom_100 : decode cX12_readAtom 100 = .ok (.aload_n 0, 1) := by decide +kernel
theorem dX12_readAtom_101 : decode cX12_readAtom 101 = .ok (.iconst 2, 1) := by decide +kernel
theorem dX12_readAtom_102 : decode cX12_readAtom 102 = .ok (.invokevirtual 126, 3) := by decide +kernel
theorem dX12_readAtom_105 : decode cX12_readAtom 105 = .ok (.goto 8, 3) := by decide +kernel
theorem dX12_readAtom_108 : decode cX12_readAtom 108 = .ok (.aload_n 0, 1) := by decide +kernel
theorem dX12_readAtom_109 : decode cX12_readAtom 109 = .ok (.iconst 2, 1) := by decide +kernel
theorem dX12_readAtom_110 : decode cX12_readAtom 110 = .ok (.invokevirtual 126, 3) := by decide +kernel
theorem dX12_readAtom_113 : decode cX12_readAtom 113 = .ok (.return_, 1) := by decide +kernel
theorem dX12_readTerm_0 : decode cX12_readTerm 0 = .ok (.aload_n 0, 1) := by decide +kernel
theorem dX12_readTerm_1 : decode cX12_readTerm 1 = .ok (.iload_n 1, 1) := by decide +kernel
theorem dX12_readTerm_2 : decode cX12_readTerm 2 = .ok (.invokevirtual 152, 3) := by decide +kernel
theorem dX12_readTerm_5 : decode cX12_readTerm 5 = .ok (.aload_n 0, 1) := by decide +kernel
theorem dX12_readTerm_6 : decode cX12_readTerm 6 = .ok (.bipush 34, 2) := by decide +kernel
theorem dX12_readTerm_8 : decode cX12_readTerm 8 = .ok (.invokevirtual 149, 3) := by decide +kernel
theorem dX12_readTerm_11 : decode cX12_readTerm 11 = .ok (.ifCond .eq 18, 3) := by decide +kernel
theorem dX12_readTerm_14 : decode cX12_readTerm 14 = .ok (.aload_n 0, 1) := by decide +kernel
theorem dX12_readTerm_15 : decode cX12_readTerm 15 = .ok (.iload_n 1, 1) := by decide +kernel
theorem dX12_readTerm_16 : decode cX12_readTerm 16 = .ok (.invokevirtual 152, 3) := by decide +kernel
theorem dX12_readTerm_19 : decode cX12_readTerm 19 = .ok (.aload_n 0, 1) := by decide +kernel
theorem dX12_readTerm_20 : decode cX12_readTerm 20 = .ok (.sipush 3002, 3) := by decide +kernel
theorem dX12_readTerm_23 : decode cX12_readTerm 23 = .ok (.invokevirtual 137, 3) := by decide +kernel
theorem dX12_readTerm_26 : decode cX12_readTerm 26 = .ok (.goto (-21), 3) := by decide +kernel
theorem dX12_readTerm_29 : decode cX12_readTerm 29 = .ok (.return_, 1) := by decide +kernel
theorem dX12_readSum_0 : decode cX12_readSum 0 = .ok (.aload_n 0, 1) := by decide +kernel
theorem dX12_readSum_1 : decode cX12_readSum 1 = .ok (.iload_n 1, 1) := by decide +kernel
theorem dX12_readSum_2 : decode cX12_readSum 2 = .ok (.invokevirtual 155, 3) := by decide +kernel
theorem dX12_readSum_5 : decode cX12_readSum 5 = .ok (.aload_n 0, 1) := by decide +kernel
theorem dX12_readSum_6 : decode cX12_readSum 6 = .ok (.bipush 32, 2) := by decide +kernel
theorem dX12_readSum_8 : decode cX12_readSum 8 = .ok (.invokevirtual 120, 3) := by decide +kernel
theorem dX12_readSum_11 : decode cX12_readSum 11 = .ok (.ifCond .ne 12, 3) := by decide +kernel
theorem dX12_readSum_14 : decode cX12_readSum 14 = .ok (.aload_n 0, 1) := by decide +kernel
theorem dX12_readSum_15 : decode cX12_readSum 15 = .ok (.bipush 33, 2) := by decide +kernel
theorem dX12_readSum_17 : decode cX12_readSum 17 = .ok (.invokevirtual 120, 3) := by decide +kernel
theorem dX12_readSum_20 : decode cX12_readSum 20 = .ok (.ifCond .eq 39, 3) := by decide +kernel
theorem dX12_readSum_23 : decode cX12_readSum 23 = .ok (.aload_n 0, 1) := by decide +kernel
theorem dX12_readSum_24 : decode cX12_readSum 24 = .ok (.getfield 96, 3) := by decide +kernel
theorem dX12_readSum_27 : decode cX12_readSum 27 = .ok (.bipush 32, 2) := by decide +kernel
theorem dX12_readSum_29 : decode cX12_readSum 29 = .ok (.if_icmp .ne 9, 3) := by decide +kernel
theorem dX12_readSum_32 : decode cX12_readSum 32 = .ok (.sipush 3000, 3) := by decide +kernel
theorem dX12_readSum_35 : decode cX12_readSum 35 = .ok (.goto 6, 3) := by decide +kernel
theorem dX12_readSum_38 : decode cX12_readSum 38 = .ok (.sipush 3001, 3) := by decide +kernel
theorem dX12_readSum_41 : decode cX12_readSum 41 = .ok (.istore_n 2, 1) := by decide +kernel
theorem dX12_readSum_42 : decode cX12_readSum 42 = .ok (.aload_n 0, 1) := by decide +kernel
theorem dX12_readSum_43 : decode cX12_readSum 43 = .ok (.invokevirtual 123, 3) := by decide +kernel
theorem dX12_readSum_46 : decode cX12_readSum 46 = .ok (.aload_n 0, 1) := by decide +kernel
theorem dX12_readSum_47 : decode cX12_readSum 47 = .ok (.iload_n 1, 1) := by decide +kernel
theorem dX12_readSum_48 : decode cX12_readSum 48 = .ok (.invokevirtual 155, 3) := by decide +kernel
theorem dX12_readSum_51 : decode cX12_readSum 51 = .ok (.aload_n 0, 1) := by decide +kernel
theorem dX12_readSum_52 : decode cX12_readSum 52 = .ok (.iload_n 2, 1) := by decide +kernel
theorem dX12_readSum_53 : decode cX12_readSum 53 = .ok (.invokevirtual 137, 3) := by decide +kernel
theorem dX12_readSum_56 : decode cX12_readSum 56 = .ok (.goto (-51), 3) := by decide +kernel
theorem dX12_readSum_59 : decode cX12_readSum 59 = .ok (.return_, 1) := by decide +kernel
theorem dX12_readUnit_0 : decode cX12_readUnit 0 = .ok (.aload_n 0, 1) := by decide +kernel
theorem dX12_readUnit_1 : decode cX12_readUnit 1 = .ok (.bipush 21, 2) := by decide +kernel
theorem dX12_readUnit_3 : decode cX12_readUnit 3 = .ok (.invokevirtual 120, 3) := by decide +kernel
theorem dX12_readUnit_6 : decode cX12_readUnit 6 = .ok (.ifCond .eq 27, 3) := by decide +kernel
theorem dX12_readUnit_9 : decode cX12_readUnit 9 = .ok (.aload_n 0, 1) := by decide +kernel
theorem dX12_readUnit_10 : decode cX12_readUnit 10 = .ok (.iload_n 1, 1) := by decide +kernel
theorem dX12_readUnit_11 : decode cX12_readUnit 11 = .ok (.invokevirtual 143, 3) := by decide +kernel
theorem dX12_readUnit_14 : decode cX12_readUnit 14 = .ok (.ifCond .ne 4, 3) := by decide +kernel
theorem dX12_readUnit_17 : decode cX12_readUnit 17 = .ok (.return_, 1) := by decide +kernel
theorem dX12_readUnit_18 : decode cX12_readUnit 18 = .ok (.aload_n 0, 1) := by decide +kernel
theorem dX12_readUnit_19 : decode cX12_readUnit 19 = .ok (.iload_n 1, 1) := by decide +kernel
theorem dX12_readUnit_20 : decode cX12_readUnit 20 = .ok (.iconst 1, 1) := by decide +kernel
theorem dX12_readUnit_21 : decode cX12_readUnit 21 = .ok (.iadd, 1) := by decide +kernel
theorem dX12_readUnit_22 : decode cX12_readUnit 22 = .ok (.invokevirtual 158, 3) := by decide +kernel
theorem dX12_readUnit_25 : decode cX12_readUnit 25 = .ok (.aload_n 0, 1) := by decide +kernel
theorem dX12_readUnit_26 : decode cX12_readUnit 26 = .ok (.sipush 3006, 3) := by decide +kernel
theorem dX12_readUnit_29 : decode cX12_readUnit 29 = .ok (.invokevirtual 137, 3) := by decide +kernel
theorem dX12_readUnit_32 : decode cX12_readUnit 32 = .ok (.return_, 1) := by decide +kernel
theorem dX12_readUnit_33 : decode cX12_readUnit 33 = .ok (.aload_n 0, 1) := by decide +kernel
theorem dX12_readUnit_34 : decode cX12_readUnit 34 = .ok (.bipush 37, 2) := by decide +kernel
theorem dX12_readUnit_36 : decode cX12_readUnit 36 = .ok (.invokevirtual 120, 3) := by decide +kernel
theorem dX12_readUnit_39 : decode cX12_readUnit 39 = .ok (.ifCond .eq 34, 3) := by decide +kernel
theorem dX12_readUnit_42 : decode cX12_readUnit 42 = .ok (.aload_n 0, 1) := by decide +kernel
theorem dX12_readUnit_43 : decode cX12_readUnit 43 = .ok (.iload_n 1, 1) := by decide +kernel
theorem dX12_readUnit_44 : decode cX12_readUnit 44 = .ok (.invokevirtual 143, 3) := by decide +kernel
theorem dX12_readUnit_47 : decode cX12_readUnit 47 = .ok (.ifCond .ne 4, 3) := by decide +kernel
theorem dX12_readUnit_50 : decode cX12_readUnit 50 = .ok (.return_, 1) := by decide +kernel
theorem dX12_readUnit_51 : decode cX12_readUnit 51 = .ok (.aload_n 0, 1) := by decide +kernel
theorem dX12_readUnit_52 : decode cX12_readUnit 52 = .ok (.iload_n 1, 1) := by decide +kernel
theorem dX12_readUnit_53 : decode cX12_readUnit 53 = .ok (.iconst 1, 1) := by decide +kernel
theorem dX12_readUnit_54 : decode cX12_readUnit 54 = .ok (.iadd, 1) := by decide +kernel
theorem dX12_readUnit_55 : decode cX12_readUnit 55 = .ok (.invokevirtual 161, 3) := by decide +kernel
theorem dX12_readUnit_58 : decode cX12_readUnit 58 = .ok (.aload_n 0, 1) := by decide +kernel
theorem dX12_readUnit_59 : decode cX12_readUnit 59 = .ok (.bipush 38, 2) := by decide +kernel
theorem dX12_readUnit_61 : decode cX12_readUnit 61 = .ok (.invokevirtual 149, 3) := by decide +kernel
theorem dX12_readUnit_64 : decode cX12_readUnit 64 = .ok (.ifCond .ne 8, 3) := by decide +kernel
theorem dX12_readUnit_67 : decode cX12_readUnit 67 = .ok (.aload_n 0, 1) := by decide +kernel
theorem dX12_readUnit_68 : decode cX12_readUnit 68 = .ok (.iconst 2, 1) := by decide +kernel
theorem dX12_readUnit_69 : decode cX12_readUnit 69 = .ok (.invokevirtual 126, 3) := by decide +kernel
theorem dX12_readUnit_72 : decode cX12_readUnit 72 = .ok (.return_, 1) := by decide +kernel
theorem dX12_readUnit_73 : decode cX12_readUnit 73 = .ok (.aload_n 0, 1) := by decide +kernel
theorem dX12_readUnit_74 : decode cX12_readUnit 74 = .ok (.iload_n 1, 1) := by decide +kernel
theorem dX12_readUnit_75 : decode cX12_readUnit 75 = .ok (.invokevirtual 146, 3) := by decide +kernel
theorem dX12_readUnit_78 : decode cX12_readUnit 78 = .ok (.aload_n 0, 1) := by decide +kernel
theorem dX12_readUnit_79 : decode cX12_readUnit 79 = .ok (.bipush 39, 2) := by decide +kernel
theorem dX12_readUnit_81 : decode cX12_readUnit 81 = .ok (.invokevirtual 120, 3) := by decide +kernel
theorem dX12_readUnit_84 : decode cX12_readUnit 84 = .ok (.ifCond .eq 9, 3) := by decide +kernel
theorem dX12_readUnit_87 : decode cX12_readUnit 87 = .ok (.sipush 3003, 3) := by decide +kernel
theorem dX12_readUnit_90 : decode cX12_readUnit 90 = .ok (.goto 21, 3) := by decide +kernel
theorem dX12_readUnit_93 : decode cX12_readUnit 93 = .ok (.aload_n 0, 1) := by decide +kernel
theorem dX12_readUnit_94 : decode cX12_readUnit 94 = .ok (.bipush 40, 2) := by decide +kernel
theorem dX12_readUnit_96 : decode cX12_readUnit 96 = .ok (.invokevirtual 120, 3) := by decide +kernel
theorem dX12_readUnit_99 : decode cX12_readUnit 99 = .ok (.ifCond .eq 9, 3) := by decide +kernel
theorem dX12_readUnit_102 : decode cX12_readUnit 102 = .ok (.sipush 3004, 3) := by decide +kernel
theorem dX12_readUnit_105 : decode cX12_readUnit 105 = .ok (.goto 6, 3) := by decide +kernel
theorem dX12_readUnit_108 : decode cX12_readUnit 108 = .ok (.sipush 3005, 3) := by decide +kernel
theorem dX12_readUnit_111 : decode cX12_readUnit 111 = .ok (.istore_n 2, 1) := by decide +kernel
theorem dX12_readUnit_112 : decode cX12_readUnit 112 = .ok (.aload_n 0, 1) := by decide +kernel
theorem dX12_readUnit_113 : decode cX12_readUnit 113 = .ok (.bipush 39, 2) := by decide +kernel
theorem dX12_readUnit_115 : decode cX12_readUnit 115 = .ok (.invokevirtual 120, 3) := by decide +kernel
theorem dX12_readUnit_118 : decode cX12_readUnit 118 = .ok (.ifCond .ne 21, 3) := by decide +kernel
theorem dX12_readUnit_121 : decode cX12_readUnit 121 = .ok (.aload_n 0, 1) := by decide +kernel
theorem dX12_readUnit_122 : decode cX12_readUnit 122 = .ok (.bipush 40, 2) := by decide +kernel
theorem dX12_readUnit_124 : decode cX12_readUnit 124 = .ok (.invokevirtual 120, 3) := by decide +kernel
theorem dX12_readUnit_127 : decode cX12_readUnit 127 = .ok (.ifCond .ne 12, 3) := by decide +kernel
theorem dX12_readUnit_130 : decode cX12_readUnit 130 = .ok (.aload_n 0, 1) := by decide +kernel
theorem dX12_readUnit_131 : decode cX12_readUnit 131 = .ok (.bipush 41, 2) := by decide +kernel
theorem dX12_readUnit_133 : decode cX12_readUnit 133 = .ok (.invokevirtual 120, 3) := by decide +kernel
theorem dX12_readUnit_136 : decode cX12_readUnit 136 = .ok (.ifCond .eq 10, 3) := by decide +kernel
theorem dX12_readUnit_139 : decode cX12_readUnit 139 = .ok (.aload_n 0, 1) := by decide +kernel
theorem dX12_readUnit_140 : decode cX12_readUnit 140 = .ok (.invokevirtual 123, 3) := by decide +kernel
theorem dX12_readUnit_143 : decode cX12_readUnit 143 = .ok (.goto 8, 3) := by decide +kernel
theorem dX12_readUnit_146 : decode cX12_readUnit 146 = .ok (.aload_n 0, 1) := by decide +kernel
theorem dX12_readUnit_147 : decode cX12_readUnit 147 = .ok (.iconst 2, 1) := by decide +kernel
theorem dX12_readUnit_148 : decode cX12_readUnit 148 = .ok (.invokevirtual 126, 3) := by decide +kernel
theorem dX12_readUnit_151 : decode cX12_readUnit 151 = .ok (.aload_n 0, 1) := by decide +kernel
theorem dX12_readUnit_152 : decode cX12_readUnit 152 = .ok (.iload_n 1, 1) := by decide +kernel
theorem dX12_readUnit_153 : decode cX12_readUnit 153 = .ok (.invokevirtual 146, 3) := by decide +kernel
theorem dX12_readUnit_156 : decode cX12_readUnit 156 = .ok (.aload_n 0, 1) := by decide +kernel
theorem dX12_readUnit_157 : decode cX12_readUnit 157 = .ok (.iload_n 2, 1) := by decide +kernel
theorem dX12_readUnit_158 : decode cX12_readUnit 158 = .ok (.invokevirtual 137, 3) := by decide +kernel
theorem dX12_readUnit_161 : decode cX12_readUnit 161 = .ok (.return_, 1) := by decide +kernel
theorem dX12_readBoth_0 : decode cX12_readBoth 0 = .ok (.aload_n 0, 1) := by decide +kernel
theorem dX12_readBoth_1 : decode cX12_readBoth 1 = .ok (.iload_n 1, 1) := by decide +kernel
theorem dX12_readBoth_2 : decode cX12_readBoth 2 = .ok (.invokevirtual 158, 3) := by decide +kernel
theorem dX12_readBoth_5 : decode cX12_readBoth 5 = .ok (.aload_n 0, 1) := by decide +kernel
theorem dX12_readBoth_6 : decode cX12_readBoth 6 = .ok (.bipush 19, 2) := by decide +kernel
theorem dX12_readBoth_8 : decode cX12_readBoth 8 = .ok (.invokevirtual 149, 3) := by decide +kernel
theorem dX12_readBoth_11 : decode cX12_readBoth 11 = .ok (.ifCond .eq 18, 3) := by decide +kernel
theorem dX12_readBoth_14 : decode cX12_readBoth 14 = .ok (.aload_n 0, 1) := by decide +kernel
theorem dX12_readBoth_15 : decode cX12_readBoth 15 = .ok (.iload_n 1, 1) := by decide +kernel
theorem dX12_readBoth_16 : decode cX12_readBoth 16 = .ok (.invokevirtual 158, 3) := by decide +kernel
theorem dX12_readBoth_19 : decode cX12_readBoth 19 = .ok (.aload_n 0, 1) := by decide +kernel
theorem dX12_readBoth_20 : decode cX12_readBoth 20 = .ok (.sipush 3007, 3) := by decide +kernel
theorem dX12_readBoth_23 : decode cX12_readBoth 23 = .ok (.invokevirtual 137, 3) := by decide +kernel
theorem dX12_readBoth_26 : decode cX12_readBoth 26 = .ok (.goto (-21), 3) := by decide +kernel
theorem dX12_readBoth_29 : decode cX12_readBoth 29 = .ok (.return_, 1) := by decide +kernel
theorem dX12_readTruth_0 : decode cX12_readTruth 0 = .ok (.aload_n 0, 1) := by decide +kernel
theorem dX12_readTruth_1 : decode cX12_readTruth 1 = .ok (.iload_n 1, 1) := by decide +kernel
theorem dX12_readTruth_2 : decode cX12_readTruth 2 = .ok (.invokevirtual 164, 3) := by decide +kernel
theorem dX12_readTruth_5 : decode cX12_readTruth 5 = .ok (.aload_n 0, 1) := by decide +kernel
theorem dX12_readTruth_6 : decode cX12_readTruth 6 = .ok (.bipush 20, 2) := by decide +kernel
theorem dX12_readTruth_8 : decode cX12_readTruth 8 = .ok (.invokevirtual 149, 3) := by decide +kernel
theorem dX12_readTruth_11 : decode cX12_readTruth 11 = .ok (.ifCond .eq 18, 3) := by decide +kernel
theorem dX12_readTruth_14 : decode cX12_readTruth 14 = .ok (.aload_n 0, 1) := by decide +kernel
theorem dX12_readTruth_15 : decode cX12_readTruth 15 = .ok (.iload_n 1, 1) := by decide +kernel
theorem dX12_readTruth_16 : decode cX12_readTruth 16 = .ok (.invokevirtual 164, 3) := by decide +kernel
theorem dX12_readTruth_19 : decode cX12_readTruth 19 = .ok (.aload_n 0, 1) := by decide +kernel
theorem dX12_readTruth_20 : decode cX12_readTruth 20 = .ok (.sipush 3008, 3) := by decide +kernel
theorem dX12_readTruth_23 : decode cX12_readTruth 23 = .ok (.invokevirtual 137, 3) := by decide +kernel
theorem dX12_readTruth_26 : decode cX12_readTruth 26 = .ok (.goto (-21), 3) := by decide +kernel
theorem dX12_readTruth_29 : decode cX12_readTruth 29 = .ok (.return_, 1) := by decide +kernel
theorem dX12_readCurrent_0 : decode cX12_readCurrent 0 = .ok (.aload_n 0, 1) := by decide +kernel
theorem dX12_readCurrent_1 : decode cX12_readCurrent 1 = .ok (.getfield 24, 3) := by decide +kernel
theorem dX12_readCurrent_4 : decode cX12_readCurrent 4 = .ok (.iconst 2, 1) := by decide +kernel
theorem dX12_readCurrent_5 : decode cX12_readCurrent 5 = .ok (.iaload, 1) := by decide +kernel
theorem dX12_readCurrent_6 : decode cX12_readCurrent 6 = .ok (.istore_n 1, 1) := by decide +kernel
theorem dX12_readCurrent_7 : decode cX12_readCurrent 7 = .ok (.iload_n 1, 1) := by decide +kernel
theorem dX12_readCurrent_8 : decode cX12_readCurrent 8 = .ok (.bipush 10, 2) := by decide +kernel
theorem dX12_readCurrent_10 : decode cX12_readCurrent 10 = .ok (.if_icmp .ne 8, 3) := by decide +kernel
theorem dX12_readCurrent_13 : decode cX12_readCurrent 13 = .ok (.aload_n 0, 1) := by decide +kernel
theorem dX12_readCurrent_14 : decode cX12_readCurrent 14 = .ok (.iconst 4, 1) := by decide +kernel
theorem dX12_readCurrent_15 : decode cX12_readCurrent 15 = .ok (.invokevirtual 126, 3) := by decide +kernel
theorem dX12_readCurrent_18 : decode cX12_readCurrent 18 = .ok (.aload_n 0, 1) := by decide +kernel
theorem dX12_readCurrent_19 : decode cX12_readCurrent 19 = .ok (.getfield 114, 3) := by decide +kernel
theorem dX12_readCurrent_22 : decode cX12_readCurrent 22 = .ok (.ifCond .eq 4, 3) := by decide +kernel
theorem dX12_readCurrent_25 : decode cX12_readCurrent 25 = .ok (.return_, 1) := by decide +kernel
theorem dX12_readCurrent_26 : decode cX12_readCurrent 26 = .ok (.aload_n 0, 1) := by decide +kernel
theorem dX12_readCurrent_27 : decode cX12_readCurrent 27 = .ok (.invokevirtual 123, 3) := by decide +kernel
theorem dX12_readCurrent_30 : decode cX12_readCurrent 30 = .ok (.aload_n 0, 1) := by decide +kernel
theorem dX12_readCurrent_31 : decode cX12_readCurrent 31 = .ok (.iconst 0, 1) := by decide +kernel
theorem dX12_readCurrent_32 : decode cX12_readCurrent 32 = .ok (.aload_n 0, 1) := by decide +kernel
theorem dX12_readCurrent_33 : decode cX12_readCurrent 33 = .ok (.getfield 24, 3) := by decide +kernel
theorem dX12_readCurrent_36 : decode cX12_readCurrent 36 = .ok (.iconst 1, 1) := by decide +kernel
theorem dX12_readCurrent_37 : decode cX12_readCurrent 37 = .ok (.iaload, 1) := by decide +kernel
theorem dX12_readCurrent_38 : decode cX12_readCurrent 38 = .ok (.iconst 1, 1) := by decide +kernel
theorem dX12_readCurrent_39 : decode cX12_readCurrent 39 = .ok (.isub, 1) := by decide +kernel
theorem dX12_readCurrent_40 : decode cX12_readCurrent 40 = .ok (.invokevirtual 167, 3) := by decide +kernel
theorem dX12_readCurrent_43 : decode cX12_readCurrent 43 = .ok (.istore_n 2, 1) := by decide +kernel
theorem dX12_readCurrent_44 : decode cX12_readCurrent 44 = .ok (.aload_n 0, 1) := by decide +kernel
theorem dX12_readCurrent_45 : decode cX12_readCurrent 45 = .ok (.bipush 23, 2) := by decide +kernel
theorem dX12_readCurrent_47 : decode cX12_readCurrent 47 = .ok (.invokevirtual 120, 3) := by decide +kernel
theorem dX12_readCurrent_50 : decode cX12_readCurrent 50 = .ok (.ifCond .eq 16, 3) := by decide +kernel
theorem dX12_readCurrent_53 : decode cX12_readCurrent 53 = .ok (.aload_n 0, 1) := by decide +kernel
theorem dX12_readCurrent_54 : decode cX12_readCurrent 54 = .ok (.getfield 109, 3) := by decide +kernel
theorem dX12_readCurrent_57 : decode cX12_readCurrent 57 = .ok (.iload_n 2, 1) := by decide +kernel
theorem dX12_readCurrent_58 : decode cX12_readCurrent 58 = .ok (.if_icmp .ne 8, 3) := by decide +kernel
theorem dX12_readCurrent_61 : decode cX12_readCurrent 61 = .ok (.aload_n 0, 1) := by decide +kernel
theorem dX12_readCurrent_62 : decode cX12_readCurrent 62 = .ok (.iconst 3, 1) := by decide +kernel
theorem dX12_readCurrent_63 : decode cX12_readCurrent 63 = .ok (.invokevirtual 126, 3) := by decide +kernel
theorem dX12_readCurrent_66 : decode cX12_readCurrent 66 = .ok (.aload_n 0, 1) := by decide +kernel
theorem dX12_readCurrent_67 : decode cX12_readCurrent 67 = .ok (.iconst 0, 1) := by decide +kernel
theorem dX12_readCurrent_68 : decode cX12_readCurrent 68 = .ok (.aload_n 0, 1) := by decide +kernel
theorem dX12_readCurrent_69 : decode cX12_readCurrent 69 = .ok (.getfield 24, 3) := by decide +kernel
theorem dX12_readCurrent_72 : decode cX12_readCurrent 72 = .ok (.iconst 1, 1) := by decide +kernel
theorem dX12_readCurrent_73 : decode cX12_readCurrent 73 = .ok (.iaload, 1) := by decide +kernel
theorem dX12_readCurrent_74 : decode cX12_readCurrent 74 = .ok (.iconst 1, 1) := by decide +kernel
theorem dX12_readCurrent_75 : decode cX12_readCurrent 75 = .ok (.isub, 1) := by decide +kernel
theorem dX12_readCurrent_76 : decode cX12_readCurrent 76 = .ok (.invokevirtual 167, 3) := by decide +kernel
theorem dX12_readCurrent_79 : decode cX12_readCurrent 79 = .ok (.istore_n 3, 1) := by decide +kernel
theorem dX12_readCurrent_80 : decode cX12_readCurrent 80 = .ok (.aload_n 0, 1) := by decide +kernel
theorem dX12_readCurrent_81 : decode cX12_readCurrent 81 = .ok (.iconst 2, 1) := by decide +kernel
theorem dX12_readCurrent_82 : decode cX12_readCurrent 82 = .ok (.invokevirtual 149, 3) := by decide +kernel
theorem dX12_readCurrent_85 : decode cX12_readCurrent 85 = .ok (.ifCond .ne 8, 3) := by decide +kernel
theorem dX12_readCurrent_88 : decode cX12_readCurrent 88 = .ok (.aload_n 0, 1) := by decide +kernel
theorem dX12_readCurrent_89 : decode cX12_readCurrent 89 = .ok (.iconst 2, 1) := by decide +kernel
theorem dX12_readCurrent_90 : decode cX12_readCurrent 90 = .ok (.invokevirtual 126, 3) := by decide +kernel
theorem dX12_readCurrent_93 : decode cX12_readCurrent 93 = .ok (.aload_n 0, 1) := by decide +kernel
theorem dX12_readCurrent_94 : decode cX12_readCurrent 94 = .ok (.iconst 1, 1) := by decide +kernel
theorem dX12_readCurrent_95 : decode cX12_readCurrent 95 = .ok (.bipush 9, 2) := by decide +kernel
theorem dX12_readCurrent_97 : decode cX12_readCurrent 97 = .ok (.invokevirtual 167, 3) := by decide +kernel
theorem dX12_readCurrent_100 : decode cX12_readCurrent 100 = .ok (.istore 4, 2) := by decide +kernel
theorem dX12_readCurrent_102 : decode cX12_readCurrent 102 = .ok (.aload_n 0, 1) := by decide +kernel
theorem dX12_readCurrent_103 : decode cX12_readCurrent 103 = .ok (.getfield 114, 3) := by decide +kernel
theorem dX12_readCurrent_106 : decode cX12_readCurrent 106 = .ok (.ifCond .eq 4, 3) := by decide +kernel
theorem dX12_readCurrent_109 : decode cX12_readCurrent 109 = .ok (.return_, 1) := by decide +kernel
theorem dX12_readCurrent_110 : decode cX12_readCurrent 110 = .ok (.aload_n 0, 1) := by decide +kernel
theorem dX12_readCurrent_111 : decode cX12_readCurrent 111 = .ok (.getfield 24, 3) := by decide +kernel
theorem dX12_readCurrent_114 : decode cX12_readCurrent 114 = .ok (.bipush 14, 2) := by decide +kernel
theorem dX12_readCurrent_116 : decode cX12_readCurrent 116 = .ok (.iload_n 1, 1) := by decide +kernel
theorem dX12_readCurrent_117 : decode cX12_readCurrent 117 = .ok (.iadd, 1) := by decide +kernel
theorem dX12_readCurrent_118 : decode cX12_readCurrent 118 = .ok (.iload_n 2, 1) := by decide +kernel
theorem dX12_readCurrent_119 : decode cX12_readCurrent 119 = .ok (.iastore, 1) := by decide +kernel
theorem dX12_readCurrent_120 : decode cX12_readCurrent 120 = .ok (.aload_n 0, 1) := by decide +kernel
theorem dX12_readCurrent_121 : decode cX12_readCurrent 121 = .ok (.getfield 24, 3) := by decide +kernel
theorem dX12_readCurrent_124 : decode cX12_readCurrent 124 = .ok (.bipush 24, 2) := by decide +kernel
theorem dX12_readCurrent_126 : decode cX12_readCurrent 126 = .ok (.iload_n 1, 1) := by decide +kernel
theorem dX12_readCurrent_127 : decode cX12_readCurrent 127 = .ok (.iadd, 1) := by decide +kernel
theorem dX12_readCurrent_128 : decode cX12_readCurrent 128 = .ok (.iload_n 3, 1) := by decide +kernel
theorem dX12_readCurrent_129 : decode cX12_readCurrent 129 = .ok (.iastore, 1) := by decide +kernel
theorem dX12_readCurrent_130 : decode cX12_readCurrent 130 = .ok (.aload_n 0, 1) := by decide +kernel
theorem dX12_readCurrent_131 : decode cX12_readCurrent 131 = .ok (.getfield 24, 3) := by decide +kernel
theorem dX12_readCurrent_134 : decode cX12_readCurrent 134 = .ok (.bipush 34, 2) := by decide +kernel
theorem dX12_readCurrent_136 : decode cX12_readCurrent 136 = .ok (.iload_n 1, 1) := by decide +kernel
theorem dX12_readCurrent_137 : decode cX12_readCurrent 137 = .ok (.iadd, 1) := by decide +kernel
theorem dX12_readCurrent_138 : decode cX12_readCurrent 138 = .ok (.iload 4, 2) := by decide +kernel
theorem dX12_readCurrent_140 : decode cX12_readCurrent 140 = .ok (.iastore, 1) := by decide +kernel
theorem dX12_readCurrent_141 : decode cX12_readCurrent 141 = .ok (.aload_n 0, 1) := by decide +kernel
theorem dX12_readCurrent_142 : decode cX12_readCurrent 142 = .ok (.getfield 24, 3) := by decide +kernel
theorem dX12_readCurrent_145 : decode cX12_readCurrent 145 = .ok (.iconst 2, 1) := by decide +kernel
theorem dX12_readCurrent_146 : decode cX12_readCurrent 146 = .ok (.dup2, 1) := by decide +kernel
theorem dX12_readCurrent_147 : decode cX12_readCurrent 147 = .ok (.iaload, 1) := by decide +kernel
theorem dX12_readCurrent_148 : decode cX12_readCurrent 148 = .ok (.iconst 1, 1) := by decide +kernel
theorem dX12_readCurrent_149 : decode cX12_readCurrent 149 = .ok (.iadd, 1) := by decide +kernel
theorem dX12_readCurrent_150 : decode cX12_readCurrent 150 = .ok (.iastore, 1) := by decide +kernel
theorem dX12_readCurrent_151 : decode cX12_readCurrent 151 = .ok (.return_, 1) := by decide +kernel
theorem dX12_readPerson_0 : decode cX12_readPerson 0 = .ok (.aload_n 0, 1) := by decide +kernel
theorem dX12_readPerson_1 : decode cX12_readPerson 1 = .ok (.getfield 24, 3) := by decide +kernel
theorem dX12_readPerson_4 : decode cX12_readPerson 4 = .ok (.iconst 3, 1) := by decide +kernel
theorem dX12_readPerson_5 : decode cX12_readPerson 5 = .ok (.iaload, 1) := by decide +kernel
theorem dX12_readPerson_6 : decode cX12_readPerson 6 = .ok (.istore_n 1, 1) := by decide +kernel
theorem dX12_readPerson_7 : decode cX12_readPerson 7 = .ok (.iload_n 1, 1) := by decide +kernel
theorem dX12_readPerson_8 : decode cX12_readPerson 8 = .ok (.bipush 6, 2) := by decide +kernel
theorem dX12_readPerson_10 : decode cX12_readPerson 10 = .ok (.if_icmp .ne 8, 3) := by decide +kernel
theorem dX12_readPerson_13 : decode cX12_readPerson 13 = .ok (.aload_n 0, 1) := by decide +kernel
theorem dX12_readPerson_14 : decode cX12_readPerson 14 = .ok (.iconst 4, 1) := by decide +kernel
theorem dX12_readPerson_15 : decode cX12_readPerson 15 = .ok (.invokevirtual 126, 3) := by decide +kernel
theorem dX12_readPerson_18 : decode cX12_readPerson 18 = .ok (.aload_n 0, 1) := by decide +kernel
theorem dX12_readPerson_19 : decode cX12_readPerson 19 = .ok (.getfield 114, 3) := by decide +kernel
theorem dX12_readPerson_22 : decode cX12_readPerson 22 = .ok (.ifCond .eq 4, 3) := by decide +kernel
theorem dX12_readPerson_25 : decode cX12_readPerson 25 = .ok (.return_, 1) := by decide +kernel
theorem dX12_readPerson_26 : decode cX12_readPerson 26 = .ok (.aload_n 0, 1) := by decide +kernel
theorem dX12_readPerson_27 : decode cX12_readPerson 27 = .ok (.invokevirtual 123, 3) := by decide +kernel
theorem dX12_readPerson_30 : decode cX12_readPerson 30 = .ok (.aload_n 0, 1) := by decide +kernel
theorem dX12_readPerson_31 : decode cX12_readPerson 31 = .ok (.getfield 24, 3) := by decide +kernel
theorem dX12_readPerson_34 : decode cX12_readPerson 34 = .ok (.bipush 44, 2) := by decide +kernel
theorem dX12_readPerson_36 : decode cX12_readPerson 36 = .ok (.iload_n 1, 1) := by decide +kernel
theorem dX12_readPerson_37 : decode cX12_readPerson 37 = .ok (.iadd, 1) := by decide +kernel
theorem dX12_readPerson_38 : decode cX12_readPerson 38 = .ok (.iconst (-1), 1) := by decide +kernel
theorem dX12_readPerson_39 : decode cX12_readPerson 39 = .ok (.iastore, 1) := by decide +kernel
theorem dX12_readPerson_40 : decode cX12_readPerson 40 = .ok (.aload_n 0, 1) := by decide +kernel
theorem dX12_readPerson_41 : decode cX12_readPerson 41 = .ok (.getfield 114, 3) := by decide +kernel
theorem dX12_readPerson_44 : decode cX12_readPerson 44 = .ok (.ifCond .ne 73, 3) := by decide +kernel
theorem dX12_readPerson_47 : decode cX12_readPerson 47 = .ok (.aload_n 0, 1) := by decide +kernel
theorem dX12_readPerson_48 : decode cX12_readPerson 48 = .ok (.iconst 4, 1) := by decide +kernel
theorem dX12_readPerson_49 : decode cX12_readPerson 49 = .ok (.invokevirtual 120, 3) := by decide +kernel
theorem dX12_readPerson_52 : decode cX12_readPerson 52 = .ok (.ifCond .ne 11, 3) := by decide +kernel
theorem dX12_readPerson_55 : decode cX12_readPerson 55 = .ok (.aload_n 0, 1) := by decide +kernel
theorem dX12_readPerson_56 : decode cX12_readPerson 56 = .ok (.iconst 5, 1) := by decide +kernel
theorem dX12_readPerson_57 : decode cX12_readPerson 57 = .ok (.invokevirtual 120, 3) := by decide +kernel
theorem dX12_readPerson_60 : decode cX12_readPerson 60 = .ok (.ifCond .eq 57, 3) := by decide +kernel
theorem dX12_readPerson_63 : decode cX12_readPerson 63 = .ok (.aload_n 0, 1) := by decide +kernel
theorem dX12_readPerson_64 : decode cX12_readPerson 64 = .ok (.iconst 4, 1) := by decide +kernel
theorem dX12_readPerson_65 : decode cX12_readPerson 65 = .ok (.invokevirtual 149, 3) := by decide +kernel
theorem dX12_readPerson_68 : decode cX12_readPerson 68 = .ok (.ifCond .eq 28, 3) := by decide +kernel
theorem dX12_readPerson_71 : decode cX12_readPerson 71 = .ok (.aload_n 0, 1) := by decide +kernel
theorem dX12_readPerson_72 : decode cX12_readPerson 72 = .ok (.getfield 24, 3) := by decide +kernel
theorem dX12_readPerson_75 : decode cX12_readPerson 75 = .ok (.bipush 44, 2) := by decide +kernel
theorem dX12_readPerson_77 : decode cX12_readPerson 77 = .ok (.iload_n 1, 1) := by decide +kernel
theorem dX12_readPerson_78 : decode cX12_readPerson 78 = .ok (.iadd, 1) := by decide +kernel
theorem dX12_readPerson_79 : decode cX12_readPerson 79 = .ok (.aload_n 0, 1) := by decide +kernel
theorem dX12_readPerson_80 : decode cX12_readPerson 80 = .ok (.iconst 0, 1) := by decide +kernel
theorem dX12_readPerson_81 : decode cX12_readPerson 81 = .ok (.aload_n 0, 1) := by decide +kernel
theorem dX12_readPerson_82 : decode cX12_readPerson 82 = .ok (.getfield 24, 3) := by decide +kernel
theorem dX12_readPerson_85 : decode cX12_readPerson 85 = .ok (.iconst 1, 1) := by decide +kernel
theorem dX12_readPerson_86 : decode cX12_readPerson 86 = .ok (.iaload, 1) := by decide +kernel
theorem dX12_readPerson_87 : decode cX12_readPerson 87 = .ok (.iconst 1, 1) := by decide +kernel
theorem dX12_readPerson_88 : decode cX12_readPerson 88 = .ok (.isub, 1) := by decide +kernel
theorem dX12_readPerson_89 : decode cX12_readPerson 89 = .ok (.invokevirtual 167, 3) := by decide +kernel
theorem dX12_readPerson_92 : decode cX12_readPerson 92 = .ok (.iastore, 1) := by decide +kernel
theorem dX12_readPerson_93 : decode cX12_readPerson 93 = .ok (.goto (-53), 3) := by decide +kernel
theorem dX12_readPerson_96 : decode cX12_readPerson 96 = .ok (.aload_n 0, 1) := by decide +kernel
theorem dX12_readPerson_97 : decode cX12_readPerson 97 = .ok (.iconst 5, 1) := by decide +kernel
theorem dX12_readPerson_98 : decode cX12_readPerson 98 = .ok (.invokevirtual 149, 3) := by decide +kernel
theorem dX12_readPerson_101 : decode cX12_readPerson 101 = .ok (.ifCond .eq (-61), 3) := by decide +kernel
theorem dX12_readPerson_104 : decode cX12_readPerson 104 = .ok (.aload_n 0, 1) := by decide +kernel
theorem dX12_readPerson_105 : decode cX12_readPerson 105 = .ok (.getfield 24, 3) := by decide +kernel
theorem dX12_readPerson_108 : decode cX12_readPerson 108 = .ok (.bipush 50, 2) := by decide +kernel
theorem dX12_readPerson_110 : decode cX12_readPerson 110 = .ok (.iload_n 1, 1) := by decide +kernel
theorem dX12_readPerson_111 : decode cX12_readPerson 111 = .ok (.iadd, 1) := by decide +kernel
theorem dX12_readPerson_112 : decode cX12_readPerson 112 = .ok (.iconst 1, 1) := by decide +kernel
theorem dX12_readPerson_113 : decode cX12_readPerson 113 = .ok (.iastore, 1) := by decide +kernel
theorem dX12_readPerson_114 : decode cX12_readPerson 114 = .ok (.goto (-74), 3) := by decide +kernel
theorem dX12_readPerson_117 : decode cX12_readPerson 117 = .ok (.aload_n 0, 1) := by decide +kernel
theorem dX12_readPerson_118 : decode cX12_readPerson 118 = .ok (.getfield 114, 3) := by decide +kernel
theorem dX12_readPerson_121 : decode cX12_readPerson 121 = .ok (.ifCond .ne 13, 3) := by decide +kernel
theorem dX12_readPerson_124 : decode cX12_readPerson 124 = .ok (.aload_n 0, 1) := by decide +kernel
theorem dX12_readPerson_125 : decode cX12_readPerson 125 = .ok (.getfield 24, 3) := by decide +kernel
theorem dX12_readPerson_128 : decode cX12_readPerson 128 = .ok (.iconst 3, 1) := by decide +kernel
theorem dX12_readPerson_129 : decode cX12_readPerson 129 = .ok (.dup2, 1) := by decide +kernel
theorem dX12_readPerson_130 : decode cX12_readPerson 130 = .ok (.iaload, 1) := by decide +kernel
theorem dX12_readPerson_131 : decode cX12_readPerson 131 = .ok (.iconst 1, 1) := by decide +kernel
theorem dX12_readPerson_132 : decode cX12_readPerson 132 = .ok (.iadd, 1) := by decide +kernel
theorem dX12_readPerson_133 : decode cX12_readPerson 133 = .ok (.iastore, 1) := by decide +kernel
theorem dX12_readPerson_134 : decode cX12_readPerson 134 = .ok (.return_, 1) := by decide +kernel
theorem dX12_readShell_0 : decode cX12_readShell 0 = .ok (.aload_n 0, 1) := by decide +kernel
theorem dX12_readShell_1 : decode cX12_readShell 1 = .ok (.getfield 24, 3) := by decide +kernel
theorem dX12_readShell_4 : decode cX12_readShell 4 = .ok (.iconst 4, 1) := by decide +kernel
theorem dX12_readShell_5 : decode cX12_readShell 5 = .ok (.iaload, 1) := by decide +kernel
theorem dX12_readShell_6 : decode cX12_readShell 6 = .ok (.istore_n 1, 1) := by decide +kernel
theorem dX12_readShell_7 : decode cX12_readShell 7 = .ok (.iload_n 1, 1) := by decide +kernel
theorem dX12_readShell_8 : decode cX12_readShell 8 = .ok (.bipush 8, 2) := by decide +kernel
theorem dX12_readShell_10 : decode cX12_readShell 10 = .ok (.if_icmp .ne 8, 3) := by decide +kernel
theorem dX12_readShell_13 : decode cX12_readShell 13 = .ok (.aload_n 0, 1) := by decide +kernel
theorem dX12_readShell_14 : decode cX12_readShell 14 = .ok (.iconst 4, 1) := by decide +kernel
theorem dX12_readShell_15 : decode cX12_readShell 15 = .ok (.invokevirtual 126, 3) := by decide +kernel
theorem dX12_readShell_18 : decode cX12_readShell 18 = .ok (.aload_n 0, 1) := by decide +kernel
theorem dX12_readShell_19 : decode cX12_readShell 19 = .ok (.getfield 114, 3) := by decide +kernel
theorem dX12_readShell_22 : decode cX12_readShell 22 = .ok (.ifCond .eq 4, 3) := by decide +kernel
theorem dX12_readShell_25 : decode cX12_readShell 25 = .ok (.return_, 1) := by decide +kernel
theorem dX12_readShell_26 : decode cX12_readShell 26 = .ok (.aload_n 0, 1) := by decide +kernel
theorem dX12_readShell_27 : decode cX12_readShell 27 = .ok (.invokevirtual 123, 3) := by decide +kernel
theorem dX12_readShell_30 : decode cX12_readShell 30 = .ok (.aload_n 0, 1) := by decide +kernel
theorem dX12_readShell_31 : decode cX12_readShell 31 = .ok (.iconst 0, 1) := by decide +kernel
theorem dX12_readShell_32 : decode cX12_readShell 32 = .ok (.aload_n 0, 1) := by decide +kernel
theorem dX12_readShell_33 : decode cX12_readShell 33 = .ok (.getfield 24, 3) := by decide +kernel
theorem dX12_readShell_36 : decode cX12_readShell 36 = .ok (.iconst 1, 1) := by decide +kernel
theorem dX12_readShell_37 : decode cX12_readShell 37 = .ok (.iaload, 1) := by decide +kernel
theorem dX12_readShell_38 : decode cX12_readShell 38 = .ok (.iconst 1, 1) := by decide +kernel
theorem dX12_readShell_39 : decode cX12_readShell 39 = .ok (.isub, 1) := by decide +kernel
theorem dX12_readShell_40 : decode cX12_readShell 40 = .ok (.invokevirtual 167, 3) := by decide +kernel
theorem dX12_readShell_43 : decode cX12_readShell 43 = .ok (.istore_n 2, 1) := by decide +kernel
theorem dX12_readShell_44 : decode cX12_readShell 44 = .ok (.aload_n 0, 1) := by decide +kernel
theorem dX12_readShell_45 : decode cX12_readShell 45 = .ok (.bipush 7, 2) := by decide +kernel
theorem dX12_readShell_47 : decode cX12_readShell 47 = .ok (.invokevirtual 149, 3) := by decide +kernel
theorem dX12_readShell_50 : decode cX12_readShell 50 = .ok (.ifCond .eq 19, 3) := by decide +kernel
theorem dX12_readShell_53 : decode cX12_readShell 53 = .ok (.aload_n 0, 1) := by decide +kernel
theorem dX12_readShell_54 : decode cX12_readShell 54 = .ok (.iconst 0, 1) := by decide +kernel
theorem dX12_readShell_55 : decode cX12_readShell 55 = .ok (.aload_n 0, 1) := by decide +kernel
theorem dX12_readShell_56 : decode cX12_readShell 56 = .ok (.getfield 24, 3) := by decide +kernel
theorem dX12_readShell_59 : decode cX12_readShell 59 = .ok (.iconst 3, 1) := by decide +kernel
theorem dX12_readShell_60 : decode cX12_readShell 60 = .ok (.iaload, 1) := by decide +kernel
theorem dX12_readShell_61 : decode cX12_readShell 61 = .ok (.iconst 1, 1) := by decide +kernel
theorem dX12_readShell_62 : decode cX12_readShell 62 = .ok (.isub, 1) := by decide +kernel
theorem dX12_readShell_63 : decode cX12_readShell 63 = .ok (.invokevirtual 167, 3) := by decide +kernel
theorem dX12_readShell_66 : decode cX12_readShell 66 = .ok (.goto 4, 3) := by decide +kernel
theorem dX12_readShell_69 : decode cX12_readShell 69 = .ok (.iconst (-1), 1) := by decide +kernel
theorem dX12_readShell_70 : decode cX12_readShell 70 = .ok (.istore_n 3, 1) := by decide +kernel
theorem dX12_readShell_71 : decode cX12_readShell 71 = .ok (.aload_n 0, 1) := by decide +kernel
theorem dX12_readShell_72 : decode cX12_readShell 72 = .ok (.getfield 114, 3) := by decide +kernel
theorem dX12_readShell_75 : decode cX12_readShell 75 = .ok (.ifCond .eq 4, 3) := by decide +kernel
theorem dX12_readShell_78 : decode cX12_readShell 78 = .ok (.return_, 1) := by decide +kernel
theorem dX12_readShell_79 : decode cX12_readShell 79 = .ok (.aload_n 0, 1) := by decide +kernel
theorem dX12_readShell_80 : decode cX12_readShell 80 = .ok (.getfield 24, 3) := by decide +kernel
theorem dX12_readShell_83 : decode cX12_readShell 83 = .ok (.bipush 56, 2) := by decide +kernel
theorem dX12_readShell_85 : decode cX12_readShell 85 = .ok (.iload_n 1, 1) := by decide +kernel
theorem dX12_readShell_86 : decode cX12_readShell 86 = .ok (.iadd, 1) := by decide +kernel
theorem dX12_readShell_87 : decode cX12_readShell 87 = .ok (.iload_n 2, 1) := by decide +kernel
theorem dX12_readShell_88 : decode cX12_readShell 88 = .ok (.iastore, 1) := by decide +kernel
theorem dX12_readShell_89 : decode cX12_readShell 89 = .ok (.aload_n 0, 1) := by decide +kernel
theorem dX12_readShell_90 : decode cX12_readShell 90 = .ok (.getfield 24, 3) := by decide +kernel
theorem dX12_readShell_93 : decode cX12_readShell 93 = .ok (.bipush 68, 2) := by decide +kernel
theorem dX12_readShell_95 : decode cX12_readShell 95 = .ok (.iload_n 1, 1) := by decide +kernel
theorem dX12_readShell_96 : decode cX12_readShell 96 = .ok (.iadd, 1) := by decide +kernel
theorem dX12_readShell_97 : decode cX12_readShell 97 = .ok (.iload_n 3, 1) := by decide +kernel
theorem dX12_readShell_98 : decode cX12_readShell 98 = .ok (.iastore, 1) := by decide +kernel
theorem dX12_readShell_99 : decode cX12_readShell 99 = .ok (.aload_n 0, 1) := by decide +kernel
theorem dX12_readShell_100 : decode cX12_readShell 100 = .ok (.getfield 24, 3) := by decide +kernel
theorem dX12_readShell_103 : decode cX12_readShell 103 = .ok (.iconst 4, 1) := by decide +kernel
theorem dX12_readShell_104 : decode cX12_readShell 104 = .ok (.dup2, 1) := by decide +kernel
theorem dX12_readShell_105 : decode cX12_readShell 105 = .ok (.iaload, 1) := by decide +kernel
theorem dX12_readShell_106 : decode cX12_readShell 106 = .ok (.iconst 1, 1) := by decide +kernel
theorem dX12_readShell_107 : decode cX12_readShell 107 = .ok (.iadd, 1) := by decide +kernel
theorem dX12_readShell_108 : decode cX12_readShell 108 = .ok (.iastore, 1) := by decide +kernel
theorem dX12_readShell_109 : decode cX12_readShell 109 = .ok (.return_, 1) := by decide +kernel
theorem dX12_readLaw_0 : decode cX12_readLaw 0 = .ok (.aload_n 0, 1) := by decide +kernel
theorem dX12_readLaw_1 : decode cX12_readLaw 1 = .ok (.invokevirtual 123, 3) := by decide +kernel
theorem dX12_readLaw_4 : decode cX12_readLaw 4 = .ok (.aload_n 0, 1) := by decide +kernel
theorem dX12_readLaw_5 : decode cX12_readLaw 5 = .ok (.bipush 31, 2) := by decide +kernel
theorem dX12_readLaw_7 : decode cX12_readLaw 7 = .ok (.invokevirtual 149, 3) := by decide +kernel
theorem dX12_readLaw_10 : decode cX12_readLaw 10 = .ok (.ifCond .ne 8, 3) := by decide +kernel
theorem dX12_readLaw_13 : decode cX12_readLaw 13 = .ok (.aload_n 0, 1) := by decide +kernel
theorem dX12_readLaw_14 : decode cX12_readLaw 14 = .ok (.iconst 2, 1) := by decide +kernel
theorem dX12_readLaw_15 : decode cX12_readLaw 15 = .ok (.invokevirtual 126, 3) := by decide +kernel
theorem dX12_readLaw_18 : decode cX12_readLaw 18 = .ok (.aload_n 0, 1) := by decide +kernel
theorem dX12_readLaw_19 : decode cX12_readLaw 19 = .ok (.getfield 24, 3) := by decide +kernel
theorem dX12_readLaw_22 : decode cX12_readLaw 22 = .ok (.sipush 1341, 3) := by decide +kernel
theorem dX12_readLaw_25 : decode cX12_readLaw 25 = .ok (.iaload, 1) := by decide +kernel
theorem dX12_readLaw_26 : decode cX12_readLaw 26 = .ok (.istore_n 2, 1) := by decide +kernel
theorem dX12_readLaw_27 : decode cX12_readLaw 27 = .ok (.aload_n 0, 1) := by decide +kernel
theorem dX12_readLaw_28 : decode cX12_readLaw 28 = .ok (.iload_n 1, 1) := by decide +kernel
theorem dX12_readLaw_29 : decode cX12_readLaw 29 = .ok (.putfield 134, 3) := by decide +kernel
theorem dX12_readLaw_32 : decode cX12_readLaw 32 = .ok (.iload_n 1, 1) := by decide +kernel
theorem dX12_readLaw_33 : decode cX12_readLaw 33 = .ok (.ifCond .ne 11, 3) := by decide +kernel
theorem dX12_readLaw_36 : decode cX12_readLaw 36 = .ok (.aload_n 0, 1) := by decide +kernel
theorem dX12_readLaw_37 : decode cX12_readLaw 37 = .ok (.iconst 0, 1) := by decide +kernel
theorem dX12_readLaw_38 : decode cX12_readLaw 38 = .ok (.invokevirtual 146, 3) := by decide +kernel
theorem dX12_readLaw_41 : decode cX12_readLaw 41 = .ok (.goto 8, 3) := by decide +kernel
theorem dX12_readLaw_44 : decode cX12_readLaw 44 = .ok (.aload_n 0, 1) := by decide +kernel
theorem dX12_readLaw_45 : decode cX12_readLaw 45 = .ok (.iconst 0, 1) := by decide +kernel
theorem dX12_readLaw_46 : decode cX12_readLaw 46 = .ok (.invokevirtual 161, 3) := by decide +kernel
theorem dX12_readLaw_49 : decode cX12_readLaw 49 = .ok (.aload_n 0, 1) := by decide +kernel
theorem dX12_readLaw_50 : decode cX12_readLaw 50 = .ok (.getfield 114, 3) := by decide +kernel
theorem dX12_readLaw_53 : decode cX12_readLaw 53 = .ok (.ifCond .eq 4, 3) := by decide +kernel
theorem dX12_readLaw_56 : decode cX12_readLaw 56 = .ok (.return_, 1) := by decide +kernel
theorem dX12_readLaw_57 : decode cX12_readLaw 57 = .ok (.aload_n 0, 1) := by decide +kernel
theorem dX12_readLaw_58 : decode cX12_readLaw 58 = .ok (.getfield 24, 3) := by decide +kernel
theorem dX12_readLaw_61 : decode cX12_readLaw 61 = .ok (.iconst 5, 1) := by decide +kernel
theorem dX12_readLaw_62 : decode cX12_readLaw 62 = .ok (.iload_n 1, 1) := by decide +kernel
theorem dX12_readLaw_63 : decode cX12_readLaw 63 = .ok (.iadd, 1) := by decide +kernel
theorem dX12_readLaw_64 : decode cX12_readLaw 64 = .ok (.iconst 1, 1) := by decide +kernel
theorem dX12_readLaw_65 : decode cX12_readLaw 65 = .ok (.iastore, 1) := by decide +kernel
theorem dX12_readLaw_66 : decode cX12_readLaw 66 = .ok (.aload_n 0, 1) := by decide +kernel
theorem dX12_readLaw_67 : decode cX12_readLaw 67 = .ok (.getfield 24, 3) := by decide +kernel
theorem dX12_readLaw_70 : decode cX12_readLaw 70 = .ok (.bipush 8, 2) := by decide +kernel
theorem dX12_readLaw_72 : decode cX12_readLaw 72 = .ok (.iload_n 1, 1) := by decide +kernel
theorem dX12_readLaw_73 : decode cX12_readLaw 73 = .ok (.iadd, 1) := by decide +kernel
theorem dX12_readLaw_74 : decode cX12_readLaw 74 = .ok (.iload_n 2, 1) := by decide +kernel
theorem dX12_readLaw_75 : decode cX12_readLaw 75 = .ok (.iastore, 1) := by decide +kernel
theorem dX12_readLaw_76 : decode cX12_readLaw 76 = .ok (.aload_n 0, 1) := by decide +kernel
theorem dX12_readLaw_77 : decode cX12_readLaw 77 = .ok (.getfield 24, 3) := by decide +kernel
theorem dX12_readLaw_80 : decode cX12_readLaw 80 = .ok (.bipush 11, 2) := by decide +kernel
theorem dX12_readLaw_82 : decode cX12_readLaw 82 = .ok (.iload_n 1, 1) := by decide +kernel
theorem dX12_readLaw_83 : decode cX12_readLaw 83 = .ok (.iadd, 1) := by decide +kernel
theorem dX12_readLaw_84 : decode cX12_readLaw 84 = .ok (.aload_n 0, 1) := by decide +kernel
theorem dX12_readLaw_85 : decode cX12_readLaw 85 = .ok (.getfield 24, 3) := by decide +kernel
theorem dX12_readLaw_88 : decode cX12_readLaw 88 = .ok (.sipush 1341, 3) := by decide +kernel
theorem dX12_readLaw_91 : decode cX12_readLaw 91 = .ok (.iaload, 1) := by decide +kernel
theorem dX12_readLaw_92 : decode cX12_readLaw 92 = .ok (.iload_n 2, 1) := by decide +kernel
theorem dX12_readLaw_93 : decode cX12_readLaw 93 = .ok (.isub, 1) := by decide +kernel
theorem dX12_readLaw_94 : decode cX12_readLaw 94 = .ok (.iastore, 1) := by decide +kernel
theorem dX12_readLaw_95 : decode cX12_readLaw 95 = .ok (.return_, 1) := by decide +kernel
theorem dX12_readLine_0 : decode cX12_readLine 0 = .ok (.aload_n 0, 1) := by decide +kernel
theorem dX12_readLine_1 : decode cX12_readLine 1 = .ok (.getfield 114, 3) := by decide +kernel
theorem dX12_readLine_4 : decode cX12_readLine 4 = .ok (.ifCond .eq 4, 3) := by decide +kernel
theorem dX12_readLine_7 : decode cX12_readLine 7 = .ok (.return_, 1) := by decide +kernel
theorem dX12_readLine_8 : decode cX12_readLine 8 = .ok (.aload_n 0, 1) := by decide +kernel
theorem dX12_readLine_9 : decode cX12_readLine 9 = .ok (.iconst 1, 1) := by decide +kernel
theorem dX12_readLine_10 : decode cX12_readLine 10 = .ok (.invokevirtual 120, 3) := by decide +kernel
theorem dX12_readLine_13 : decode cX12_readLine 13 = .ok (.ifCond .eq 10, 3) := by decide +kernel
theorem dX12_readLine_16 : decode cX12_readLine 16 = .ok (.aload_n 0, 1) := by decide +kernel
theorem dX12_readLine_17 : decode cX12_readLine 17 = .ok (.invokevirtual 171, 3) := by decide +kernel
theorem dX12_readLine_20 : decode cX12_readLine 20 = .ok (.goto 123, 3) := by decide +kernel
theorem dX12_readLine_23 : decode cX12_readLine 23 = .ok (.aload_n 0, 1) := by decide +kernel
theorem dX12_readLine_24 : decode cX12_readLine 24 = .ok (.iconst 3, 1) := by decide +kernel
theorem dX12_readLine_25 : decode cX12_readLine 25 = .ok (.invokevirtual 120, 3) := by decide +kernel
theorem dX12_readLine_28 : decode cX12_readLine 28 = .ok (.ifCond .eq 10, 3) := by decide +kernel
theorem dX12_readLine_31 : decode cX12_readLine 31 = .ok (.aload_n 0, 1) := by decide +kernel
theorem dX12_readLine_32 : decode cX12_readLine 32 = .ok (.invokevirtual 174, 3) := by decide +kernel
theorem dX12_readLine_35 : decode cX12_readLine 35 = .ok (.goto 108, 3) := by decide +kernel
theorem dX12_readLine_38 : decode cX12_readLine 38 = .ok (.aload_n 0, 1) := by decide +kernel
theorem dX12_readLine_39 : decode cX12_readLine 39 = .ok (.bipush 6, 2) := by decide +kernel
theorem dX12_readLine_41 : decode cX12_readLine 41 = .ok (.invokevirtual 120, 3) := by decide +kernel
theorem dX12_readLine_44 : decode cX12_readLine 44 = .ok (.ifCond .eq 10, 3) := by decide +kernel
theorem dX12_readLine_47 : decode cX12_readLine 47 = .ok (.aload_n 0, 1) := by decide +kernel
theorem dX12_readLine_48 : decode cX12_readLine 48 = .ok (.invokevirtual 177, 3) := by decide +kernel
theorem dX12_readLine_51 : decode cX12_readLine 51 = .ok (.goto 92, 3) := by decide +kernel
theorem dX12_readLine_54 : decode cX12_readLine 54 = .ok (.aload_n 0, 1) := by decide +kernel
theorem dX12_readLine_55 : decode cX12_readLine 55 = .ok (.getfield 96, 3) := by decide +kernel
theorem dX12_readLine_58 : decode cX12_readLine 58 = .ok (.i2l, 1) := by decide +kernel
theorem dX12_readLine_59 : decode cX12_readLine 59 = .ok (.ldc2_w 180, 3) := by decide +kernel
theorem dX12_readLine_62 : decode cX12_readLine 62 = .ok (.ldc2_w 182, 3) := by decide +kernel
theorem dX12_readLine_65 : decode cX12_readLine 65 = .ok (.invokestatic 130, 3) := by decide +kernel
theorem dX12_readLine_68 : decode cX12_readLine 68 = .ok (.ifCond .eq 17, 3) := by decide +kernel
theorem dX12_readLine_71 : decode cX12_readLine 71 = .ok (.aload_n 0, 1) := by decide +kernel
theorem dX12_readLine_72 : decode cX12_readLine 72 = .ok (.aload_n 0, 1) := by decide +kernel
theorem dX12_readLine_73 : decode cX12_readLine 73 = .ok (.getfield 96, 3) := by decide +kernel
theorem dX12_readLine_76 : decode cX12_readLine 76 = .ok (.bipush 8, 2) := by decide +kernel
theorem dX12_readLine_78 : decode cX12_readLine 78 = .ok (.isub, 1) := by decide +kernel
theorem dX12_readLine_79 : decode cX12_readLine 79 = .ok (.invokevirtual 184, 3) := by decide +kernel
theorem dX12_readLine_82 : decode cX12_readLine 82 = .ok (.goto 61, 3) := by decide +kernel
theorem dX12_readLine_85 : decode cX12_readLine 85 = .ok (.aload_n 0, 1) := by decide +kernel
theorem dX12_readLine_86 : decode cX12_readLine 86 = .ok (.bipush 11, 2) := by decide +kernel
theorem dX12_readLine_88 : decode cX12_readLine 88 = .ok (.invokevirtual 149, 3) := by decide +kernel
theorem dX12_readLine_91 : decode cX12_readLine 91 = .ok (.ifCond .eq 20, 3) := by decide +kernel
theorem dX12_readLine_94 : decode cX12_readLine 94 = .ok (.aload_n 0, 1) := by decide +kernel
theorem dX12_readLine_95 : decode cX12_readLine 95 = .ok (.getfield 24, 3) := by decide +kernel
theorem dX12_readLine_98 : decode cX12_readLine 98 = .ok (.bipush 65, 2) := by decide +kernel
theorem dX12_readLine_100 : decode cX12_readLine 100 = .ok (.aload_n 0, 1) := by decide +kernel
theorem dX12_readLine_101 : decode cX12_readLine 101 = .ok (.iconst 0, 1) := by decide +kernel
theorem dX12_readLine_102 : decode cX12_readLine 102 = .ok (.bipush 99, 2) := by decide +kernel
theorem dX12_readLine_104 : decode cX12_readLine 104 = .ok (.invokevirtual 167, 3) := by decide +kernel
theorem dX12_readLine_107 : decode cX12_readLine 107 = .ok (.iastore, 1) := by decide +kernel
theorem dX12_readLine_108 : decode cX12_readLine 108 = .ok (.goto 35, 3) := by decide +kernel
theorem dX12_readLine_111 : decode cX12_readLine 111 = .ok (.aload_n 0, 1) := by decide +kernel
theorem dX12_readLine_112 : decode cX12_readLine 112 = .ok (.bipush 12, 2) := by decide +kernel
theorem dX12_readLine_114 : decode cX12_readLine 114 = .ok (.invokevirtual 149, 3) := by decide +kernel
theorem dX12_readLine_117 : decode cX12_readLine 117 = .ok (.ifCond .eq 21, 3) := by decide +kernel
theorem dX12_readLine_120 : decode cX12_readLine 120 = .ok (.aload_n 0, 1) := by decide +kernel
theorem dX12_readLine_121 : decode cX12_readLine 121 = .ok (.getfield 24, 3) := by decide +kernel
theorem dX12_readLine_124 : decode cX12_readLine 124 = .ok (.bipush 64, 2) := by decide +kernel
theorem dX12_readLine_126 : decode cX12_readLine 126 = .ok (.aload_n 0, 1) := by decide +kernel
theorem dX12_readLine_127 : decode cX12_readLine 127 = .ok (.iconst 0, 1) := by decide +kernel
theorem dX12_readLine_128 : decode cX12_readLine 128 = .ok (.sipush 999, 3) := by decide +kernel
theorem dX12_readLine_131 : decode cX12_readLine 131 = .ok (.invokevirtual 167, 3) := by decide +kernel
theorem dX12_readLine_134 : decode cX12_readLine 134 = .ok (.iastore, 1) := by decide +kernel
theorem dX12_readLine_135 : decode cX12_readLine 135 = .ok (.goto 8, 3) := by decide +kernel
theorem dX12_readLine_138 : decode cX12_readLine 138 = .ok (.aload_n 0, 1) := by decide +kernel
theorem dX12_readLine_139 : decode cX12_readLine 139 = .ok (.iconst 2, 1) := by decide +kernel
theorem dX12_readLine_140 : decode cX12_readLine 140 = .ok (.invokevirtual 126, 3) := by decide +kernel
theorem dX12_readLine_143 : decode cX12_readLine 143 = .ok (.return_, 1) := by decide +kernel
theorem dX12_ends_0 : decode cX12_ends 0 = .ok (.aload_n 0, 1) := by decide +kernel
theorem dX12_ends_1 : decode cX12_ends 1 = .ok (.bipush 30, 2) := by decide +kernel
theorem dX12_ends_3 : decode cX12_ends 3 = .ok (.invokevirtual 149, 3) := by decide +kernel
theorem dX12_ends_6 : decode cX12_ends 6 = .ok (.ifCond .ne 8, 3) := by decide +kernel
theorem dX12_ends_9 : decode cX12_ends 9 = .ok (.aload_n 0, 1) := by decide +kernel
theorem dX12_ends_10 : decode cX12_ends 10 = .ok (.iconst 2, 1) := by decide +kernel
theorem dX12_ends_11 : decode cX12_ends 11 = .ok (.invokevirtual 126, 3) := by decide +kernel
theorem dX12_ends_14 : decode cX12_ends 14 = .ok (.aload_n 0, 1) := by decide +kernel
theorem dX12_ends_15 : decode cX12_ends 15 = .ok (.getfield 24, 3) := by decide +kernel
theorem dX12_ends_18 : decode cX12_ends 18 = .ok (.iconst 0, 1) := by decide +kernel
theorem dX12_ends_19 : decode cX12_ends 19 = .ok (.dup2, 1) := by decide +kernel
theorem dX12_ends_20 : decode cX12_ends 20 = .ok (.iaload, 1) := by decide +kernel
theorem dX12_ends_21 : decode cX12_ends 21 = .ok (.iconst 1, 1) := by decide +kernel
theorem dX12_ends_22 : decode cX12_ends 22 = .ok (.iadd, 1) := by decide +kernel
theorem dX12_ends_23 : decode cX12_ends 23 = .ok (.iastore, 1) := by decide +kernel
theorem dX12_ends_24 : decode cX12_ends 24 = .ok (.return_, 1) := by decide +kernel
theorem dX12_sea_0 : decode cX12_sea 0 = .ok (.aload_n 0, 1) := by decide +kernel
theorem dX12_sea_1 : decode cX12_sea 1 = .ok (.iconst 0, 1) := by decide +kernel
theorem dX12_sea_2 : decode cX12_sea 2 = .ok (.putfield 1, 3) := by decide +kernel
theorem dX12_sea_5 : decode cX12_sea 5 = .ok (.iload_n 1, 1) := by decide +kernel
theorem dX12_sea_6 : decode cX12_sea 6 = .ok (.i2l, 1) := by decide +kernel
theorem dX12_sea_7 : decode cX12_sea 7 = .ok (.lconst 0, 1) := by decide +kernel
theorem dX12_sea_8 : decode cX12_sea 8 = .ok (.aload_n 0, 1) := by decide +kernel
theorem dX12_sea_9 : decode cX12_sea 9 = .ok (.getfield 68, 3) := by decide +kernel
theorem dX12_sea_12 : decode cX12_sea 12 = .ok (.i2l, 1) := by decide +kernel
theorem dX12_sea_13 : decode cX12_sea 13 = .ok (.invokestatic 130, 3) := by decide +kernel
theorem dX12_sea_16 : decode cX12_sea 16 = .ok (.ifCond .ne 6, 3) := by decide +kernel
theorem dX12_sea_19 : decode cX12_sea 19 = .ok (.bipush (-3), 2) := by decide +kernel
theorem dX12_sea_21 : decode cX12_sea 21 = .ok (.ireturn, 1) := by decide +kernel
theorem dX12_sea_22 : decode cX12_sea 22 = .ok (.aload_n 0, 1) := by decide +kernel
theorem dX12_sea_23 : decode cX12_sea 23 = .ok (.iload_n 1, 1) := by decide +kernel
theorem dX12_sea_24 : decode cX12_sea 24 = .ok (.putfield 71, 3) := by decide +kernel
theorem dX12_sea_27 : decode cX12_sea 27 = .ok (.aload_n 0, 1) := by decide +kernel
theorem dX12_sea_28 : decode cX12_sea 28 = .ok (.iconst 0, 1) := by decide +kernel
theorem dX12_sea_29 : decode cX12_sea 29 = .ok (.putfield 68, 3) := by decide +kernel
theorem dX12_sea_32 : decode cX12_sea 32 = .ok (.aload_n 0, 1) := by decide +kernel
theorem dX12_sea_33 : decode cX12_sea 33 = .ok (.iconst 0, 1) := by decide +kernel
theorem dX12_sea_34 : decode cX12_sea 34 = .ok (.putfield 89, 3) := by decide +kernel
theorem dX12_sea_37 : decode cX12_sea 37 = .ok (.aload_n 0, 1) := by decide +kernel
theorem dX12_sea_38 : decode cX12_sea 38 = .ok (.iconst 0, 1) := by decide +kernel
theorem dX12_sea_39 : decode cX12_sea 39 = .ok (.putfield 114, 3) := by decide +kernel
theorem dX12_sea_42 : decode cX12_sea 42 = .ok (.aload_n 0, 1) := by decide +kernel
theorem dX12_sea_43 : decode cX12_sea 43 = .ok (.getfield 24, 3) := by decide +kernel
theorem dX12_sea_46 : decode cX12_sea 46 = .ok (.invokestatic 64, 3) := by decide +kernel
theorem dX12_sea_49 : decode cX12_sea 49 = .ok (.aload_n 0, 1) := by decide +kernel
theorem dX12_sea_50 : decode cX12_sea 50 = .ok (.invokevirtual 123, 3) := by decide +kernel
theorem dX12_sea_53 : decode cX12_sea 53 = .ok (.aload_n 0, 1) := by decide +kernel
theorem dX12_sea_54 : decode cX12_sea 54 = .ok (.iconst 0, 1) := by decide +kernel
theorem dX12_sea_55 : decode cX12_sea 55 = .ok (.invokevirtual 149, 3) := by decide +kernel
theorem dX12_sea_58 : decode cX12_sea 58 = .ok (.ifCond .ne 8, 3) := by decide +kernel
theorem dX12_sea_61 : decode cX12_sea 61 = .ok (.aload_n 0, 1) := by decide +kernel
theorem dX12_sea_62 : decode cX12_sea 62 = .ok (.iconst 2, 1) := by decide +kernel
theorem dX12_sea_63 : decode cX12_sea 63 = .ok (.invokevirtual 126, 3) := by decide +kernel
theorem dX12_sea_66 : decode cX12_sea 66 = .ok (.aload_n 0, 1) := by decide +kernel
theorem dX12_sea_67 : decode cX12_sea 67 = .ok (.getfield 24, 3) := by decide +kernel
theorem dX12_sea_70 : decode cX12_sea 70 = .ok (.iconst 1, 1) := by decide +kernel
theorem dX12_sea_71 : decode cX12_sea 71 = .ok (.aload_n 0, 1) := by decide +kernel
theorem dX12_sea_72 : decode cX12_sea 72 = .ok (.iconst 1, 1) := by decide +kernel
theorem dX12_sea_73 : decode cX12_sea 73 = .ok (.bipush 6, 2) := by decide +kernel
theorem dX12_sea_75 : decode cX12_sea 75 = .ok (.invokevirtual 167, 3) := by decide +kernel
theorem dX12_sea_78 : decode cX12_sea 78 = .ok (.iastore, 1) := by decide +kernel
theorem dX12_sea_79 : decode cX12_sea 79 = .ok (.aload_n 0, 1) := by decide +kernel
theorem dX12_sea_80 : decode cX12_sea 80 = .ok (.invokevirtual 187, 3) := by decide +kernel
theorem dX12_sea_83 : decode cX12_sea 83 = .ok (.aload_n 0, 1) := by decide +kernel
theorem dX12_sea_84 : decode cX12_sea 84 = .ok (.getfield 114, 3) := by decide +kernel
theorem dX12_sea_87 : decode cX12_sea 87 = .ok (.ifCond .ne 23, 3) := by decide +kernel
theorem dX12_sea_90 : decode cX12_sea 90 = .ok (.aload_n 0, 1) := by decide +kernel
theorem dX12_sea_91 : decode cX12_sea 91 = .ok (.getfield 96, 3) := by decide +kernel
theorem dX12_sea_94 : decode cX12_sea 94 = .ok (.bipush 24, 2) := by decide +kernel
theorem dX12_sea_96 : decode cX12_sea 96 = .ok (.if_icmp .eq 14, 3) := by decide +kernel
theorem dX12_sea_99 : decode cX12_sea 99 = .ok (.aload_n 0, 1) := by decide +kernel
theorem dX12_sea_100 : decode cX12_sea 100 = .ok (.invokevirtual 190, 3) := by decide +kernel
theorem dX12_sea_103 : decode cX12_sea 103 = .ok (.aload_n 0, 1) := by decide +kernel
theorem dX12_sea_104 : decode cX12_sea 104 = .ok (.invokevirtual 187, 3) := by decide +kernel
theorem dX12_sea_107 : decode cX12_sea 107 = .ok (.goto (-24), 3) := by decide +kernel
theorem dX12_sea_110 : decode cX12_sea 110 = .ok (.aload_n 0, 1) := by decide +kernel
theorem dX12_sea_111 : decode cX12_sea 111 = .ok (.aload_n 0, 1) := by decide +kernel
theorem dX12_sea_112 : decode cX12_sea 112 = .ok (.getfield 114, 3) := by decide +kernel
theorem dX12_sea_115 : decode cX12_sea 115 = .ok (.putfield 193, 3) := by decide +kernel
theorem dX12_sea_118 : decode cX12_sea 118 = .ok (.aload_n 0, 1) := by decide +kernel
theorem dX12_sea_119 : decode cX12_sea 119 = .ok (.aload_n 0, 1) := by decide +kernel
theorem dX12_sea_120 : decode cX12_sea 120 = .ok (.getfield 114, 3) := by decide +kernel
theorem dX12_sea_123 : decode cX12_sea 123 = .ok (.ifCond .ne 7, 3) := by decide +kernel
theorem dX12_sea_126 : decode cX12_sea 126 = .ok (.iconst (-1), 1) := by decide +kernel
theorem dX12_sea_127 : decode cX12_sea 127 = .ok (.goto 7, 3) := by decide +kernel
theorem dX12_sea_130 : decode cX12_sea 130 = .ok (.aload_n 0, 1) := by decide +kernel
theorem dX12_sea_131 : decode cX12_sea 131 = .ok (.getfield 117, 3) := by decide +kernel
theorem dX12_sea_134 : decode cX12_sea 134 = .ok (.putfield 27, 3) := by decide +kernel
theorem dX12_sea_137 : decode cX12_sea 137 = .ok (.aload_n 0, 1) := by decide +kernel
theorem dX12_sea_138 : decode cX12_sea 138 = .ok (.getfield 114, 3) := by decide +kernel
theorem dX12_sea_141 : decode cX12_sea 141 = .ok (.ifCond .eq 11, 3) := by decide +kernel
theorem dX12_sea_144 : decode cX12_sea 144 = .ok (.bipush (-30), 2) := by decide +kernel
theorem dX12_sea_146 : decode cX12_sea 146 = .ok (.aload_n 0, 1) := by decide +kernel
theorem dX12_sea_147 : decode cX12_sea 147 = .ok (.getfield 114, 3) := by decide +kernel
theorem dX12_sea_150 : decode cX12_sea 150 = .ok (.isub, 1) := by decide +kernel
theorem dX12_sea_151 : decode cX12_sea 151 = .ok (.ireturn, 1) := by decide +kernel
theorem dX12_sea_152 : decode cX12_sea 152 = .ok (.iconst 0, 1) := by decide +kernel
theorem dX12_sea_153 : decode cX12_sea 153 = .ok (.istore_n 2, 1) := by decide +kernel
theorem dX12_sea_154 : decode cX12_sea 154 = .ok (.iload_n 2, 1) := by decide +kernel
theorem dX12_sea_155 : decode cX12_sea 155 = .ok (.sipush 2242, 3) := by decide +kernel
theorem dX12_sea_158 : decode cX12_sea 158 = .ok (.if_icmp .ge 21, 3) := by decide +kernel
theorem dX12_sea_161 : decode cX12_sea 161 = .ok (.aload_n 0, 1) := by decide +kernel
theorem dX12_sea_162 : decode cX12_sea 162 = .ok (.getfield 13, 3) := by decide +kernel
theorem dX12_sea_165 : decode cX12_sea 165 = .ok (.iload_n 2, 1) := by decide +kernel
theorem dX12_sea_166 : decode cX12_sea 166 = .ok (.aload_n 0, 1) := by decide +kernel
theorem dX12_sea_167 : decode cX12_sea 167 = .ok (.getfield 24, 3) := by decide +kernel
theorem dX12_sea_170 : decode cX12_sea 170 = .ok (.iload_n 2, 1) := by decide +kernel
theorem dX12_sea_171 : decode cX12_sea 171 = .ok (.iaload, 1) := by decide +kernel
theorem dX12_sea_172 : decode cX12_sea 172 = .ok (.iastore, 1) := by decide +kernel
theorem dX12_sea_173 : decode cX12_sea 173 = .ok (.iinc 2 1, 3) := by decide +kernel
theorem dX12_sea_176 : decode cX12_sea 176 = .ok (.goto (-22), 3) := by decide +kernel
theorem dX12_sea_179 : decode cX12_sea 179 = .ok (.aload_n 0, 1) := by decide +kernel
theorem dX12_sea_180 : decode cX12_sea 180 = .ok (.getfield 13, 3) := by decide +kernel
theorem dX12_sea_183 : decode cX12_sea 183 = .ok (.iconst 0, 1) := by decide +kernel
theorem dX12_sea_184 : decode cX12_sea 184 = .ok (.iaload, 1) := by decide +kernel
theorem dX12_sea_185 : decode cX12_sea 185 = .ok (.ireturn, 1) := by decide +kernel
theorem dX12_fault_0 : decode cX12_fault 0 = .ok (.aload_n 0, 1) := by decide +kernel
theorem dX12_fault_1 : decode cX12_fault 1 = .ok (.iconst 0, 1) := by decide +kernel
theorem dX12_fault_2 : decode cX12_fault 2 = .ok (.putfield 1, 3) := by decide +kernel
theorem dX12_fault_5 : decode cX12_fault 5 = .ok (.iload_n 1, 1) := by decide +kernel
theorem dX12_fault_6 : decode cX12_fault 6 = .ok (.ifCond .ne 10, 3) := by decide +kernel
theorem dX12_fault_9 : decode cX12_fault 9 = .ok (.aload_n 0, 1) := by decide +kernel
theorem dX12_fault_10 : decode cX12_fault 10 = .ok (.getfield 193, 3) := by decide +kernel
theorem dX12_fault_13 : decode cX12_fault 13 = .ok (.goto 16, 3) := by decide +kernel
theorem dX12_fault_16 : decode cX12_fault 16 = .ok (.iload_n 1, 1) := by decide +kernel
theorem dX12_fault_17 : decode cX12_fault 17 = .ok (.iconst 1, 1) := by decide +kernel
theorem dX12_fault_18 : decode cX12_fault 18 = .ok (.if_icmp .ne 10, 3) := by decide +kernel
theorem dX12_fault_21 : decode cX12_fault 21 = .ok (.aload_n 0, 1) := by decide +kernel
theorem dX12_fault_22 : decode cX12_fault 22 = .ok (.getfield 27, 3) := by decide +kernel
theorem dX12_fault_25 : decode cX12_fault 25 = .ok (.goto 4, 3) := by decide +kernel
theorem dX12_fault_28 : decode cX12_fault 28 = .ok (.iconst (-1), 1) := by decide +kernel
theorem dX12_fault_29 : decode cX12_fault 29 = .ok (.ireturn, 1) := by decide +kernel
theorem dX12_isBeach_0 : decode cX12_isBeach 0 = .ok (.lload_n 1, 1) := by decide +kernel
theorem dX12_isBeach_1 : decode cX12_isBeach 1 = .ok (.lconst 0, 1) := by decide +kernel
theorem dX12_isBeach_2 : decode cX12_isBeach 2 = .ok (.aload_n 0, 1) := by decide +kernel
theorem dX12_isBeach_3 : decode cX12_isBeach 3 = .ok (.getfield 13, 3) := by decide +kernel
theorem dX12_isBeach_6 : decode cX12_isBeach 6 = .ok (.iconst 1, 1) := by decide +kernel
theorem dX12_isBeach_7 : decode cX12_isBeach 7 = .ok (.iaload, 1) := by decide +kernel
theorem dX12_isBeach_8 : decode cX12_isBeach 8 = .ok (.iconst 1, 1) := by decide +kernel
theorem dX12_isBeach_9 : decode cX12_isBeach 9 = .ok (.isub, 1) := by decide +kernel
theorem dX12_isBeach_10 : decode cX12_isBeach 10 = .ok (.i2l, 1) := by decide +kernel
theorem dX12_isBeach_11 : decode cX12_isBeach 11 = .ok (.invokestatic 130, 3) := by decide +kernel
theorem dX12_isBeach_14 : decode cX12_isBeach 14 = .ok (.ireturn, 1) := by decide +kernel
theorem dX12_isCurrent_0 : decode cX12_isCurrent 0 = .ok (.lload_n 1, 1) := by decide +kernel
theorem dX12_isCurrent_1 : decode cX12_isCurrent 1 = .ok (.lconst 0, 1) := by decide +kernel
theorem dX12_isCurrent_2 : decode cX12_isCurrent 2 = .ok (.aload_n 0, 1) := by decide +kernel
theorem dX12_isCurrent_3 : decode cX12_isCurrent 3 = .ok (.getfield 13, 3) := by decide +kernel
theorem dX12_isCurrent_6 : decode cX12_isCurrent 6 = .ok (.iconst 2, 1) := by decide +kernel
theorem dX12_isCurrent_7 : decode cX12_isCurrent 7 = .ok (.iaload, 1) := by decide +kernel
theorem dX12_isCurrent_8 : decode cX12_isCurrent 8 = .ok (.iconst 1, 1) := by decide +kernel
theorem dX12_isCurrent_9 : decode cX12_isCurrent 9 = .ok (.isub, 1) := by decide +kernel
theorem dX12_isCurrent_10 : decode cX12_isCurrent 10 = .ok (.i2l, 1) := by decide +kernel
theorem dX12_isCurrent_11 : decode cX12_isCurrent 11 = .ok (.invokestatic 130, 3) := by decide +kernel
theorem dX12_isCurrent_14 : decode cX12_isCurrent 14 = .ok (.ireturn, 1) := by decide +kernel
theorem dX12_isPerson_0 : decode cX12_isPerson 0 = .ok (.lload_n 1, 1) := by decide +kernel
theorem dX12_isPerson_1 : decode cX12_isPerson 1 = .ok (.lconst 0, 1) := by decide +kernel
theorem dX12_isPerson_2 : decode cX12_isPerson 2 = .ok (.aload_n 0, 1) := by decide +kernel
theorem dX12_isPerson_3 : decode cX12_isPerson 3 = .ok (.getfield 13, 3) := by decide +kernel
theorem dX12_isPerson_6 : decode cX12_isPerson 6 = .ok (.iconst 3, 1) := by decide +kernel
theorem dX12_isPerson_7 : decode cX12_isPerson 7 = .ok (.iaload, 1) := by decide +kernel
theorem dX12_isPerson_8 : decode cX12_isPerson 8 = .ok (.iconst 1, 1) := by decide +kernel
theorem dX12_isPerson_9 : decode cX12_isPerson 9 = .ok (.isub, 1) := by decide +kernel
theorem dX12_isPerson_10 : decode cX12_isPerson 10 = .ok (.i2l, 1) := by decide +kernel
theorem dX12_isPerson_11 : decode cX12_isPerson 11 = .ok (.invokestatic 130, 3) := by decide +kernel
theorem dX12_isPerson_14 : decode cX12_isPerson 14 = .ok (.ireturn, 1) := by decide +kernel
theorem dX12_isShell_0 : decode cX12_isShell 0 = .ok (.lload_n 1, 1) := by decide +kernel
theorem dX12_isShell_1 : decode cX12_isShell 1 = .ok (.lconst 0, 1) := by decide +kernel
theorem dX12_isShell_2 : decode cX12_isShell 2 = .ok (.aload_n 0, 1) := by decide +kernel
theorem dX12_isShell_3 : decode cX12_isShell 3 = .ok (.getfield 13, 3) := by decide +kernel
theorem dX12_isShell_6 : decode cX12_isShell 6 = .ok (.iconst 4, 1) := by decide +kernel
theorem dX12_isShell_7 : decode cX12_isShell 7 = .ok (.iaload, 1) := by decide +kernel
theorem dX12_isShell_8 : decode cX12_isShell 8 = .ok (.iconst 1, 1) := by decide +kernel
theorem dX12_isShell_9 : decode cX12_isShell 9 = .ok (.isub, 1) := by decide +kernel
theorem dX12_isShell_10 : decode cX12_isShell 10 = .ok (.i2l, 1) := by decide +kernel
theorem dX12_isShell_11 : decode cX12_isShell 11 = .ok (.invokestatic 130, 3) := by decide +kernel
theorem dX12_isShell_14 : decode cX12_isShell 14 = .ok (.ireturn, 1) := by decide +kernel
theorem dX12_isWord_0 : decode cX12_isWord 0 = .ok (.lload_n 1, 1) := by decide +kernel
theorem dX12_isWord_1 : decode cX12_isWord 1 = .ok (.lconst 0, 1) := by decide +kernel
theorem dX12_isWord_2 : decode cX12_isWord 2 = .ok (.aload_n 0, 1) := by decide +kernel
theorem dX12_isWord_3 : decode cX12_isWord 3 = .ok (.getfield 13, 3) := by decide +kernel
theorem dX12_isWord_6 : decode cX12_isWord 6 = .ok (.bipush 67, 2) := by decide +kernel
theorem dX12_isWord_8 : decode cX12_isWord 8 = .ok (.iaload, 1) := by decide +kernel
theorem dX12_isWord_9 : decode cX12_isWord 9 = .ok (.iconst 1, 1) := by decide +kernel
theorem dX12_isWord_10 : decode cX12_isWord 10 = .ok (.isub, 1) := by decide +kernel
theorem dX12_isWord_11 : decode cX12_isWord 11 = .ok (.i2l, 1) := by decide +kernel
theorem dX12_isWord_12 : decode cX12_isWord 12 = .ok (.invokestatic 130, 3) := by decide +kernel
theorem dX12_isWord_15 : decode cX12_isWord 15 = .ok (.ireturn, 1) := by decide +kernel
theorem dX12_bitsOf_0 : decode cX12_bitsOf 0 = .ok (.iconst 0, 1) := by decide +kernel
theorem dX12_bitsOf_1 : decode cX12_bitsOf 1 = .ok (.istore_n 1, 1) := by decide +kernel
theorem dX12_bitsOf_2 : decode cX12_bitsOf 2 = .ok (.iconst 0, 1) := by decide +kernel
theorem dX12_bitsOf_3 : decode cX12_bitsOf 3 = .ok (.istore_n 2, 1) := by decide +kernel
theorem dX12_bitsOf_4 : decode cX12_bitsOf 4 = .ok (.iload_n 2, 1) := by decide +kernel
theorem dX12_bitsOf_5 : decode cX12_bitsOf 5 = .ok (.bipush 10, 2) := by decide +kernel
theorem dX12_bitsOf_7 : decode cX12_bitsOf 7 = .ok (.if_icmp .ge 17, 3) := by decide +kernel
theorem dX12_bitsOf_10 : decode cX12_bitsOf 10 = .ok (.iload_n 1, 1) := by decide +kernel
theorem dX12_bitsOf_11 : decode cX12_bitsOf 11 = .ok (.iload_n 0, 1) := by decide +kernel
theorem dX12_bitsOf_12 : decode cX12_bitsOf 12 = .ok (.iload_n 2, 1) := by decide +kernel
theorem dX12_bitsOf_13 : decode cX12_bitsOf 13 = .ok (.ishr, 1) := by decide +kernel
theorem dX12_bitsOf_14 : decode cX12_bitsOf 14 = .ok (.iconst 1, 1) := by decide +kernel
theorem dX12_bitsOf_15 : decode cX12_bitsOf 15 = .ok (.iand, 1) := by decide +kernel
theorem dX12_bitsOf_16 : decode cX12_bitsOf 16 = .ok (.iadd, 1) := by decide +kernel
theorem dX12_bitsOf_17 : decode cX12_bitsOf 17 = .ok (.istore_n 1, 1) := by decide +kernel
theorem dX12_bitsOf_18 : decode cX12_bitsOf 18 = .ok (.iinc 2 1, 3) := by decide +kernel
theorem dX12_bitsOf_21 : decode cX12_bitsOf 21 = .ok (.goto (-17), 3) := by decide +kernel
theorem dX12_bitsOf_24 : decode cX12_bitsOf 24 = .ok (.iload_n 1, 1) := by decide +kernel
theorem dX12_bitsOf_25 : decode cX12_bitsOf 25 = .ok (.ireturn, 1) := by decide +kernel
theorem dX12_between_0 : decode cX12_between 0 = .ok (.iload_n 0, 1) := by decide +kernel
theorem dX12_between_1 : decode cX12_between 1 = .ok (.tableswitch 80 3003 3008 #[39, 50, 61, 80, 72, 76], 39) := by decide +kernel
theorem dX12_between_40 : decode cX12_between 40 = .ok (.iload_n 1, 1) := by decide +kernel
theorem dX12_between_41 : decode cX12_between 41 = .ok (.iload_n 2, 1) := by decide +kernel
theorem dX12_between_42 : decode cX12_between 42 = .ok (.if_icmp .ne 7, 3) := by decide +kernel
theorem dX12_between_45 : decode cX12_between 45 = .ok (.iconst 1, 1) := by decide +kernel
theorem dX12_between_46 : decode cX12_between 46 = .ok (.goto 4, 3) := by decide +kernel
theorem dX12_between_49 : decode cX12_between 49 = .ok (.iconst 0, 1) := by decide +kernel
theorem dX12_between_50 : decode cX12_between 50 = .ok (.ireturn, 1) := by decide +kernel
theorem dX12_between_51 : decode cX12_between 51 = .ok (.iload_n 1, 1) := by decide +kernel
theorem dX12_between_52 : decode cX12_between 52 = .ok (.iload_n 2, 1) := by decide +kernel
theorem dX12_between_53 : decode cX12_between 53 = .ok (.if_icmp .ge 7, 3) := by decide +kernel
theorem dX12_between_56 : decode cX12_between 56 = .ok (.iconst 1, 1) := by decide +kernel
theorem dX12_between_57 : decode cX12_between 57 = .ok (.goto 4, 3) := by decide +kernel
theorem dX12_between_60 : decode cX12_between 60 = .ok (.iconst 0, 1) := by decide +kernel
theorem dX12_between_61 : decode cX12_between 61 = .ok (.ireturn, 1) := by decide +kernel
theorem dX12_between_62 : decode cX12_between 62 = .ok (.iload_n 1, 1) := by decide +kernel
theorem dX12_between_63 : decode cX12_between 63 = .ok (.iload_n 2, 1) := by decide +kernel
theorem dX12_between_64 : decode cX12_between 64 = .ok (.if_icmp .le 7, 3) := by decide +kernel
theorem dX12_between_67 : decode cX12_between 67 = .ok (.iconst 1, 1) := by decide +kernel
theorem dX12_between_68 : decode cX12_between 68 = .ok (.goto 4, 3) := by decide +kernel
theorem dX12_between_71 : decode cX12_between 71 = .ok (.iconst 0, 1) := by decide +kernel
theorem dX12_between_72 : decode cX12_between 72 = .ok (.ireturn, 1) := by decide +kernel
theorem dX12_between_73 : decode cX12_between 73 = .ok (.iload_n 1, 1) := by decide +kernel
theorem dX12_between_74 : decode cX12_between 74 = .ok (.iload_n 2, 1) := by decide +kernel
theorem dX12_between_75 : decode cX12_between 75 = .ok (.iand, 1) := by decide +kernel
theorem dX12_between_76 : decode cX12_between 76 = .ok (.ireturn, 1) := by decide +kernel
theorem dX12_between_77 : decode cX12_between 77 = .ok (.iload_n 1, 1) := by decide +kernel
theorem dX12_between_78 : decode cX12_between 78 = .ok (.iload_n 2, 1) := by decide +kernel
theorem dX12_between_79 : decode cX12_between 79 = .ok (.ior, 1) := by decide +kernel
theorem dX12_between_80 : decode cX12_between 80 = .ok (.ireturn, 1) := by decide +kernel
theorem dX12_between_81 : decode cX12_between 81 = .ok (.iload_n 0, 1) := by decide +kernel
theorem dX12_between_82 : decode cX12_between 82 = .ok (.sipush 3000, 3) := by decide +kernel
theorem dX12_between_85 : decode cX12_between 85 = .ok (.if_icmp .ne 11, 3) := by decide +kernel
theorem dX12_between_88 : decode cX12_between 88 = .ok (.iload_n 1, 1) := by decide +kernel
theorem dX12_between_89 : decode cX12_between 89 = .ok (.i2l, 1) := by decide +kernel
theorem dX12_between_90 : decode cX12_between 90 = .ok (.iload_n 2, 1) := by decide +kernel
theorem dX12_between_91 : decode cX12_between 91 = .ok (.i2l, 1) := by decide +kernel
theorem dX12_between_92 : decode cX12_between 92 = .ok (.ladd, 1) := by decide +kernel
theorem dX12_between_93 : decode cX12_between 93 = .ok (.goto 23, 3) := by decide +kernel
theorem dX12_between_96 : decode cX12_between 96 = .ok (.iload_n 0, 1) := by decide +kernel
theorem dX12_between_97 : decode cX12_between 97 = .ok (.sipush 3001, 3) := by decide +kernel
theorem dX12_between_100 : decode cX12_between 100 = .ok (.if_icmp .ne 11, 3) := by decide +kernel
theorem dX12_between_103 : decode cX12_between 103 = .ok (.iload_n 1, 1) := by decide +kernel
theorem dX12_between_104 : decode cX12_between 104 = .ok (.i2l, 1) := by decide +kernel
theorem dX12_between_105 : decode cX12_between 105 = .ok (.iload_n 2, 1) := by decide +kernel
theorem dX12_between_106 : decode cX12_between 106 = .ok (.i2l, 1) := by decide +kernel
theorem dX12_between_107 : decode cX12_between 107 = .ok (.lsub, 1) := by decide +kernel
theorem dX12_between_108 : decode cX12_between 108 = .ok (.goto 8, 3) := by decide +kernel
theorem dX12_between_111 : decode cX12_between 111 = .ok (.iload_n 1, 1) := by decide +kernel
theorem dX12_between_112 : decode cX12_between 112 = .ok (.i2l, 1) := by decide +kernel
theorem dX12_between_113 : decode cX12_between 113 = .ok (.iload_n 2, 1) := by decide +kernel
theorem dX12_between_114 : decode cX12_between 114 = .ok (.i2l, 1) := by decide +kernel
theorem dX12_between_115 : decode cX12_between 115 = .ok (.lmul, 1) := by decide +kernel
theorem dX12_between_116 : decode cX12_between 116 = .ok (.lstore_n 3, 1) := by decide +kernel
theorem dX12_between_117 : decode cX12_between 117 = .ok (.lload_n 3, 1) := by decide +kernel
theorem dX12_between_118 : decode cX12_between 118 = .ok (.ldc2_w 196, 3) := by decide +kernel
theorem dX12_between_121 : decode cX12_between 121 = .ok (.lcmp, 1) := by decide +kernel
theorem dX12_between_122 : decode cX12_between 122 = .ok (.ifCond .le 9, 3) := by decide +kernel
theorem dX12_between_125 : decode cX12_between 125 = .ok (.ldc2_w 196, 3) := by decide +kernel
theorem dX12_between_128 : decode cX12_between 128 = .ok (.goto 18, 3) := by decide +kernel
theorem dX12_between_131 : decode cX12_between 131 = .ok (.lload_n 3, 1) := by decide +kernel
theorem dX12_between_132 : decode cX12_between 132 = .ok (.ldc2_w 198, 3) := by decide +kernel
theorem dX12_between_135 : decode cX12_between 135 = .ok (.lcmp, 1) := by decide +kernel
theorem dX12_between_136 : decode cX12_between 136 = .ok (.ifCond .ge 9, 3) := by decide +kernel
theorem dX12_between_139 : decode cX12_between 139 = .ok (.ldc2_w 198, 3) := by decide +kernel
theorem dX12_between_142 : decode cX12_between 142 = .ok (.goto 4, 3) := by decide +kernel
theorem dX12_between_145 : decode cX12_between 145 = .ok (.lload_n 3, 1) := by decide +kernel
theorem dX12_between_146 : decode cX12_between 146 = .ok (.l2i, 1) := by decide +kernel
theorem dX12_between_147 : decode cX12_between 147 = .ok (.ireturn, 1) := by decide +kernel
theorem dX12_reckons_0 : decode cX12_reckons 0 = .ok (.aload_n 0, 1) := by decide +kernel
theorem dX12_reckons_1 : decode cX12_reckons 1 = .ok (.getfield 33, 3) := by decide +kernel
theorem dX12_reckons_4 : decode cX12_reckons 4 = .ok (.iconst 0, 1) := by decide +kernel
theorem dX12_reckons_5 : decode cX12_reckons 5 = .ok (.iload_n 2, 1) := by decide +kernel
theorem dX12_reckons_6 : decode cX12_reckons 6 = .ok (.bipush 24, 2) := by decide +kernel
theorem dX12_reckons_8 : decode cX12_reckons 8 = .ok (.irem, 1) := by decide +kernel
theorem dX12_reckons_9 : decode cX12_reckons 9 = .ok (.iastore, 1) := by decide +kernel
theorem dX12_reckons_10 : decode cX12_reckons 10 = .ok (.aload_n 0, 1) := by decide +kernel
theorem dX12_reckons_11 : decode cX12_reckons 11 = .ok (.getfield 33, 3) := by decide +kernel
theorem dX12_reckons_14 : decode cX12_reckons 14 = .ok (.iconst 1, 1) := by decide +kernel
theorem dX12_reckons_15 : decode cX12_reckons 15 = .ok (.iload_n 3, 1) := by decide +kernel
theorem dX12_reckons_16 : decode cX12_reckons 16 = .ok (.iastore, 1) := by decide +kernel
theorem dX12_reckons_17 : decode cX12_reckons 17 = .ok (.iconst 0, 1) := by decide +kernel
theorem dX12_reckons_18 : decode cX12_reckons 18 = .ok (.istore 4, 2) := by decide +kernel
theorem dX12_reckons_20 : decode cX12_reckons 20 = .ok (.iconst 0, 1) := by decide +kernel
theorem dX12_reckons_21 : decode cX12_reckons 21 = .ok (.istore 5, 2) := by decide +kernel
theorem dX12_reckons_23 : decode cX12_reckons 23 = .ok (.iload 5, 2) := by decide +kernel
theorem dX12_reckons_25 : decode cX12_reckons 25 = .ok (.aload_n 0, 1) := by decide +kernel
theorem dX12_reckons_26 : decode cX12_reckons 26 = .ok (.getfield 13, 3) := by decide +kernel
theorem dX12_reckons_29 : decode cX12_reckons 29 = .ok (.bipush 11, 2) := by decide +kernel
theorem dX12_reckons_31 : decode cX12_reckons 31 = .ok (.iload_n 1, 1) := by decide +kernel
theorem dX12_reckons_32 : decode cX12_reckons 32 = .ok (.iadd, 1) := by decide +kernel
theorem dX12_reckons_33 : decode cX12_reckons 33 = .ok (.iaload, 1) := by decide +kernel
theorem dX12_reckons_34 : decode cX12_reckons 34 = .ok (.if_icmp .ge 141, 3) := by decide +kernel
theorem dX12_reckons_37 : decode cX12_reckons 37 = .ok (.aload_n 0, 1) := by decide +kernel
theorem dX12_reckons_38 : decode cX12_reckons 38 = .ok (.getfield 13, 3) := by decide +kernel
theorem dX12_reckons_41 : decode cX12_reckons 41 = .ok (.sipush 1342, 3) := by decide +kernel
theorem dX12_reckons_44 : decode cX12_reckons 44 = .ok (.aload_n 0, 1) := by decide +kernel
theorem dX12_reckons_45 : decode cX12_reckons 45 = .ok (.getfield 13, 3) := by decide +kernel
theorem dX12_reckons_48 : decode cX12_reckons 48 = .ok (.bipush 8, 2) := by decide +kernel
theorem dX12_reckons_50 : decode cX12_reckons 50 = .ok (.iload_n 1, 1) := by decide +kernel
theorem dX12_reckons_51 : decode cX12_reckons 51 = .ok (.iadd, 1) := by decide +kernel
theorem dX12_reckons_52 : decode cX12_reckons 52 = .ok (.iaload, 1) := by decide +kernel
theorem dX12_reckons_53 : decode cX12_reckons 53 = .ok (.iadd, 1) := by decide +kernel
theorem dX12_reckons_54 : decode cX12_reckons 54 = .ok (.iload 5, 2) := by decide +kernel
theorem dX12_reckons_56 : decode cX12_reckons 56 = .ok (.iadd, 1) := by decide +kernel
theorem dX12_reckons_57 : decode cX12_reckons 57 = .ok (.iaload, 1) := by decide +kernel
theorem dX12_reckons_58 : decode cX12_reckons 58 = .ok (.istore 6, 2) := by decide +kernel
theorem dX12_reckons_60 : decode cX12_reckons 60 = .ok (.iload 6, 2) := by decide +kernel
theorem dX12_reckons_62 : decode cX12_reckons 62 = .ok (.sipush 3000, 3) := by decide +kernel
theorem dX12_reckons_65 : decode cX12_reckons 65 = .ok (.if_icmp .ge 40, 3) := by decide +kernel
theorem dX12_reckons_68 : decode cX12_reckons 68 = .ok (.aload_n 0, 1) := by decide +kernel
theorem dX12_reckons_69 : decode cX12_reckons 69 = .ok (.getfield 30, 3) := by decide +kernel
theorem dX12_reckons_72 : decode cX12_reckons 72 = .ok (.iload 4, 2) := by decide +kernel
theorem dX12_reckons_74 : decode cX12_reckons 74 = .ok (.iload 6, 2) := by decide +kernel
theorem dX12_reckons_76 : decode cX12_reckons 76 = .ok (.sipush 1000, 3) := by decide +kernel
theorem dX12_reckons_79 : decode cX12_reckons 79 = .ok (.if_icmp .ge 8, 3) := by decide +kernel
theorem dX12_reckons_82 : decode cX12_reckons 82 = .ok (.iload 6, 2) := by decide +kernel
theorem dX12_reckons_84 : decode cX12_reckons 84 = .ok (.goto 14, 3) := by decide +kernel
theorem dX12_reckons_87 : decode cX12_reckons 87 = .ok (.aload_n 0, 1) := by decide +kernel
theorem dX12_reckons_88 : decode cX12_reckons 88 = .ok (.getfield 33, 3) := by decide +kernel
theorem dX12_reckons_91 : decode cX12_reckons 91 = .ok (.iload 6, 2) := by decide +kernel
theorem dX12_reckons_93 : decode cX12_reckons 93 = .ok (.sipush 1000, 3) := by decide +kernel
theorem dX12_reckons_96 : decode cX12_reckons 96 = .ok (.isub, 1) := by decide +kernel
theorem dX12_reckons_97 : decode cX12_reckons 97 = .ok (.iaload, 1) := by decide +kernel
theorem dX12_reckons_98 : decode cX12_reckons 98 = .ok (.iastore, 1) := by decide +kernel
theorem dX12_reckons_99 : decode cX12_reckons 99 = .ok (.iinc 4 1, 3) := by decide +kernel
theorem dX12_reckons_102 : decode cX12_reckons 102 = .ok (.goto 67, 3) := by decide +kernel
theorem dX12_reckons_105 : decode cX12_reckons 105 = .ok (.iload 6, 2) := by decide +kernel
theorem dX12_reckons_107 : decode cX12_reckons 107 = .ok (.sipush 3006, 3) := by decide +kernel
theorem dX12_reckons_110 : decode cX12_reckons 110 = .ok (.if_icmp .ne 26, 3) := by decide +kernel
theorem dX12_reckons_113 : decode cX12_reckons 113 = .ok (.aload_n 0, 1) := by decide +kernel
theorem dX12_reckons_114 : decode cX12_reckons 114 = .ok (.getfield 30, 3) := by decide +kernel
theorem dX12_reckons_117 : decode cX12_reckons 117 = .ok (.iload 4, 2) := by decide +kernel
theorem dX12_reckons_119 : decode cX12_reckons 119 = .ok (.iconst 1, 1) := by decide +kernel
theorem dX12_reckons_120 : decode cX12_reckons 120 = .ok (.isub, 1) := by decide +kernel
theorem dX12_reckons_121 : decode cX12_reckons 121 = .ok (.iconst 1, 1) := by decide +kernel
theorem dX12_reckons_122 : decode cX12_reckons 122 = .ok (.aload_n 0, 1) := by decide +kernel
theorem dX12_reckons_123 : decode cX12_reckons 123 = .ok (.getfield 30, 3) := by decide +kernel
theorem dX12_reckons_126 : decode cX12_reckons 126 = .ok (.iload 4, 2) := by decide +kernel
theorem dX12_reckons_128 : decode cX12_reckons 128 = .ok (.iconst 1, 1) := by decide +kernel
theorem dX12_reckons_129 : decode cX12_reckons 129 = .ok (.isub, 1) := by decide +kernel
theorem dX12_reckons_130 : decode cX12_reckons 130 = .ok (.iaload, 1) := by decide +kernel
theorem dX12_reckons_131 : decode cX12_reckons 131 = .ok (.isub, 1) := by decide +kernel
theorem dX12_reckons_132 : decode cX12_reckons 132 = .ok (.iastore, 1) := by decide +kernel
theorem dX12_reckons_133 : decode cX12_reckons 133 = .ok (.goto 36, 3) := by decide +kernel
theorem dX12_reckons_136 : decode cX12_reckons 136 = .ok (.iinc 4 (-1), 3) := by decide +kernel
theorem dX12_reckons_139 : decode cX12_reckons 139 = .ok (.aload_n 0, 1) := by decide +kernel
theorem dX12_reckons_140 : decode cX12_reckons 140 = .ok (.getfield 30, 3) := by decide +kernel
theorem dX12_reckons_143 : decode cX12_reckons 143 = .ok (.iload 4, 2) := by decide +kernel
theorem dX12_reckons_145 : decode cX12_reckons 145 = .ok (.iconst 1, 1) := by decide +kernel
theorem dX12_reckons_146 : decode cX12_reckons 146 = .ok (.isub, 1) := by decide +kernel
theorem dX12_reckons_147 : decode cX12_reckons 147 = .ok (.iload 6, 2) := by decide +kernel
theorem dX12_reckons_149 : decode cX12_reckons 149 = .ok (.aload_n 0, 1) := by decide +kernel
theorem dX12_reckons_150 : decode cX12_reckons 150 = .ok (.getfield 30, 3) := by decide +kernel
theorem dX12_reckons_153 : decode cX12_reckons 153 = .ok (.iload 4, 2) := by decide +kernel
theorem dX12_reckons_155 : decode cX12_reckons 155 = .ok (.iconst 1, 1) := by decide +kernel
theorem dX12_reckons_156 : decode cX12_reckons 156 = .ok (.isub, 1) := by decide +kernel
theorem dX12_reckons_157 : decode cX12_reckons 157 = .ok (.iaload, 1) := by decide +kernel
theorem dX12_reckons_158 : decode cX12_reckons 158 = .ok (.aload_n 0, 1) := by decide +kernel
theorem dX12_reckons_159 : decode cX12_reckons 159 = .ok (.getfield 30, 3) := by decide +kernel
theorem dX12_reckons_162 : decode cX12_reckons 162 = .ok (.iload 4, 2) := by decide +kernel
theorem dX12_reckons_164 : decode cX12_reckons 164 = .ok (.iaload, 1) := by decide +kernel
theorem dX12_reckons_165 : decode cX12_reckons 165 = .ok (.invokestatic 200, 3) := by decide +kernel
theorem dX12_reckons_168 : decode cX12_reckons 168 = .ok (.iastore, 1) := by decide +kernel
theorem dX12_reckons_169 : decode cX12_reckons 169 = .ok (.iinc 5 1, 3) := by decide +kernel
theorem dX12_reckons_172 : decode cX12_reckons 172 = .ok (.goto (-149), 3) := by decide +kernel
theorem dX12_reckons_175 : decode cX12_reckons 175 = .ok (.aload_n 0, 1) := by decide +kernel
theorem dX12_reckons_176 : decode cX12_reckons 176 = .ok (.getfield 30, 3) := by decide +kernel
theorem dX12_reckons_179 : decode cX12_reckons 179 = .ok (.iconst 0, 1) := by decide +kernel
theorem dX12_reckons_180 : decode cX12_reckons 180 = .ok (.iaload, 1) := by decide +kernel
theorem dX12_reckons_181 : decode cX12_reckons 181 = .ok (.ireturn, 1) := by decide +kernel
theorem dX12_galeIn_0 : decode cX12_galeIn 0 = .ok (.iload_n 1, 1) := by decide +kernel
theorem dX12_galeIn_1 : decode cX12_galeIn 1 = .ok (.aload_n 0, 1) := by decide +kernel
theorem dX12_galeIn_2 : decode cX12_galeIn 2 = .ok (.getfield 13, 3) := by decide +kernel
theorem dX12_galeIn_5 : decode cX12_galeIn 5 = .ok (.bipush 65, 2) := by decide +kernel
theorem dX12_galeIn_7 : decode cX12_galeIn 7 = .ok (.iaload, 1) := by decide +kernel
theorem dX12_galeIn_8 : decode cX12_galeIn 8 = .ok (.if_icmp .ge 7, 3) := by decide +kernel
theorem dX12_galeIn_11 : decode cX12_galeIn 11 = .ok (.iconst 1, 1) := by decide +kernel
theorem dX12_galeIn_12 : decode cX12_galeIn 12 = .ok (.goto 4, 3) := by decide +kernel
theorem dX12_galeIn_15 : decode cX12_galeIn 15 = .ok (.iconst 0, 1) := by decide +kernel
theorem dX12_galeIn_16 : decode cX12_galeIn 16 = .ok (.ireturn, 1) := by decide +kernel
theorem dX12_soundIn_0 : decode cX12_soundIn 0 = .ok (.aload_n 0, 1) := by decide +kernel
theorem dX12_soundIn_1 : decode cX12_soundIn 1 = .ok (.getfield 13, 3) := by decide +kernel
theorem dX12_soundIn_4 : decode cX12_soundIn 4 = .ok (.iconst 5, 1) := by decide +kernel
theorem dX12_soundIn_5 : decode cX12_soundIn 5 = .ok (.iaload, 1) := by decide +kernel
theorem dX12_soundIn_6 : decode cX12_soundIn 6 = .ok (.ifCond .ne 14, 3) := by decide +kernel
theorem dX12_soundIn_9 : decode cX12_soundIn 9 = .ok (.bipush 10, 2) := by decide +kernel
theorem dX12_soundIn_11 : decode cX12_soundIn 11 = .ok (.iload_n 1, 1) := by decide +kernel
theorem dX12_soundIn_12 : decode cX12_soundIn 12 = .ok (.imul, 1) := by decide +kernel
theorem dX12_soundIn_13 : decode cX12_soundIn 13 = .ok (.aload_n 0, 1) := by decide +kernel
theorem dX12_soundIn_14 : decode cX12_soundIn 14 = .ok (.iload_n 2, 1) := by decide +kernel
theorem dX12_soundIn_15 : decode cX12_soundIn 15 = .ok (.invokevirtual 204, 3) := by decide +kernel
theorem dX12_soundIn_18 : decode cX12_soundIn 18 = .ok (.iadd, 1) := by decide +kernel
theorem dX12_soundIn_19 : decode cX12_soundIn 19 = .ok (.ireturn, 1) := by decide +kernel
theorem dX12_soundIn_20 : decode cX12_soundIn 20 = .ok (.aload_n 0, 1) := by decide +kernel
theorem dX12_soundIn_21 : decode cX12_soundIn 21 = .ok (.getfield 33, 3) := by decide +kernel
theorem dX12_soundIn_24 : decode cX12_soundIn 24 = .ok (.iconst 2, 1) := by decide +kernel
theorem dX12_soundIn_25 : decode cX12_soundIn 25 = .ok (.iload_n 1, 1) := by decide +kernel
theorem dX12_soundIn_26 : decode cX12_soundIn 26 = .ok (.iastore, 1) := by decide +kernel
theorem dX12_soundIn_27 : decode cX12_soundIn 27 = .ok (.aload_n 0, 1) := by decide +kernel
theorem dX12_soundIn_28 : decode cX12_soundIn 28 = .ok (.iconst 0, 1) := by decide +kernel
theorem dX12_soundIn_29 : decode cX12_soundIn 29 = .ok (.aload_n 0, 1) := by decide +kernel
theorem dX12_soundIn_30 : decode cX12_soundIn 30 = .ok (.getfield 13, 3) := by decide +kernel
theorem dX12_soundIn_33 : decode cX12_soundIn 33 = .ok (.bipush 64, 2) := by decide +kernel
theorem dX12_soundIn_35 : decode cX12_soundIn 35 = .ok (.iaload, 1) := by decide +kernel
theorem dX12_soundIn_36 : decode cX12_soundIn 36 = .ok (.iload_n 2, 1) := by decide +kernel
theorem dX12_soundIn_37 : decode cX12_soundIn 37 = .ok (.iadd, 1) := by decide +kernel
theorem dX12_soundIn_38 : decode cX12_soundIn 38 = .ok (.aload_n 0, 1) := by decide +kernel
theorem dX12_soundIn_39 : decode cX12_soundIn 39 = .ok (.iload_n 2, 1) := by decide +kernel
theorem dX12_soundIn_40 : decode cX12_soundIn 40 = .ok (.invokevirtual 204, 3) := by decide +kernel
theorem dX12_soundIn_43 : decode cX12_soundIn 43 = .ok (.invokevirtual 207, 3) := by decide +kernel
theorem dX12_soundIn_46 : decode cX12_soundIn 46 = .ok (.istore_n 3, 1) := by decide +kernel
theorem dX12_soundIn_47 : decode cX12_soundIn 47 = .ok (.iload_n 3, 1) := by decide +kernel
theorem dX12_soundIn_48 : decode cX12_soundIn 48 = .ok (.ifCond .ge 7, 3) := by decide +kernel
theorem dX12_soundIn_51 : decode cX12_soundIn 51 = .ok (.iconst 0, 1) := by decide +kernel
theorem dX12_soundIn_52 : decode cX12_soundIn 52 = .ok (.goto 15, 3) := by decide +kernel
theorem dX12_soundIn_55 : decode cX12_soundIn 55 = .ok (.iload_n 3, 1) := by decide +kernel
theorem dX12_soundIn_56 : decode cX12_soundIn 56 = .ok (.bipush 99, 2) := by decide +kernel
theorem dX12_soundIn_58 : decode cX12_soundIn 58 = .ok (.if_icmp .le 8, 3) := by decide +kernel
theorem dX12_soundIn_61 : decode cX12_soundIn 61 = .ok (.bipush 99, 2) := by decide +kernel
theorem dX12_soundIn_63 : decode cX12_soundIn 63 = .ok (.goto 4, 3) := by decide +kernel
theorem dX12_soundIn_66 : decode cX12_soundIn 66 = .ok (.iload_n 3, 1) := by decide +kernel
theorem dX12_soundIn_67 : decode cX12_soundIn 67 = .ok (.ireturn, 1) := by decide +kernel
theorem dX12_isOpen_0 : decode cX12_isOpen 0 = .ok (.aload_n 0, 1) := by decide +kernel
theorem dX12_isOpen_1 : decode cX12_isOpen 1 = .ok (.getfield 13, 3) := by decide +kernel
theorem dX12_isOpen_4 : decode cX12_isOpen 4 = .ok (.bipush 6, 2) := by decide +kernel
theorem dX12_isOpen_6 : decode cX12_isOpen 6 = .ok (.iaload, 1) := by decide +kernel
theorem dX12_isOpen_7 : decode cX12_isOpen 7 = .ok (.ifCond .ne 17, 3) := by decide +kernel
theorem dX12_isOpen_10 : decode cX12_isOpen 10 = .ok (.aload_n 0, 1) := by decide +kernel
theorem dX12_isOpen_11 : decode cX12_isOpen 11 = .ok (.iconst 0, 1) := by decide +kernel
theorem dX12_isOpen_12 : decode cX12_isOpen 12 = .ok (.invokevirtual 204, 3) := by decide +kernel
theorem dX12_isOpen_15 : decode cX12_isOpen 15 = .ok (.ifCond .ne 7, 3) := by decide +kernel
theorem dX12_isOpen_18 : decode cX12_isOpen 18 = .ok (.iconst 1, 1) := by decide +kernel
theorem dX12_isOpen_19 : decode cX12_isOpen 19 = .ok (.goto 4, 3) := by decide +kernel
theorem dX12_isOpen_22 : decode cX12_isOpen 22 = .ok (.iconst 0, 1) := by decide +kernel
theorem dX12_isOpen_23 : decode cX12_isOpen 23 = .ok (.ireturn, 1) := by decide +kernel
theorem dX12_isOpen_24 : decode cX12_isOpen 24 = .ok (.aload_n 0, 1) := by decide +kernel
theorem dX12_isOpen_25 : decode cX12_isOpen 25 = .ok (.getfield 33, 3) := by decide +kernel
theorem dX12_isOpen_28 : decode cX12_isOpen 28 = .ok (.iconst 3, 1) := by decide +kernel
theorem dX12_isOpen_29 : decode cX12_isOpen 29 = .ok (.aload_n 0, 1) := by decide +kernel
theorem dX12_isOpen_30 : decode cX12_isOpen 30 = .ok (.getfield 13, 3) := by decide +kernel
theorem dX12_isOpen_33 : decode cX12_isOpen 33 = .ok (.bipush 14, 2) := by decide +kernel
theorem dX12_isOpen_35 : decode cX12_isOpen 35 = .ok (.iload_n 1, 1) := by decide +kernel
theorem dX12_isOpen_36 : decode cX12_isOpen 36 = .ok (.iadd, 1) := by decide +kernel
theorem dX12_isOpen_37 : decode cX12_isOpen 37 = .ok (.iaload, 1) := by decide +kernel
theorem dX12_isOpen_38 : decode cX12_isOpen 38 = .ok (.iastore, 1) := by decide +kernel
theorem dX12_isOpen_39 : decode cX12_isOpen 39 = .ok (.aload_n 0, 1) := by decide +kernel
theorem dX12_isOpen_40 : decode cX12_isOpen 40 = .ok (.getfield 33, 3) := by decide +kernel
theorem dX12_isOpen_43 : decode cX12_isOpen 43 = .ok (.iconst 4, 1) := by decide +kernel
theorem dX12_isOpen_44 : decode cX12_isOpen 44 = .ok (.aload_n 0, 1) := by decide +kernel
theorem dX12_isOpen_45 : decode cX12_isOpen 45 = .ok (.getfield 13, 3) := by decide +kernel
theorem dX12_isOpen_48 : decode cX12_isOpen 48 = .ok (.bipush 24, 2) := by decide +kernel
theorem dX12_isOpen_50 : decode cX12_isOpen 50 = .ok (.iload_n 1, 1) := by decide +kernel
theorem dX12_isOpen_51 : decode cX12_isOpen 51 = .ok (.iadd, 1) := by decide +kernel
theorem dX12_isOpen_52 : decode cX12_isOpen 52 = .ok (.iaload, 1) := by decide +kernel
theorem dX12_isOpen_53 : decode cX12_isOpen 53 = .ok (.iastore, 1) := by decide +kernel
theorem dX12_isOpen_54 : decode cX12_isOpen 54 = .ok (.aload_n 0, 1) := by decide +kernel
theorem dX12_isOpen_55 : decode cX12_isOpen 55 = .ok (.getfield 33, 3) := by decide +kernel
theorem dX12_isOpen_58 : decode cX12_isOpen 58 = .ok (.iconst 5, 1) := by decide +kernel
theorem dX12_isOpen_59 : decode cX12_isOpen 59 = .ok (.aload_n 0, 1) := by decide +kernel
theorem dX12_isOpen_60 : decode cX12_isOpen 60 = .ok (.getfield 13, 3) := by decide +kernel
theorem dX12_isOpen_63 : decode cX12_isOpen 63 = .ok (.bipush 34, 2) := by decide +kernel
theorem dX12_isOpen_65 : decode cX12_isOpen 65 = .ok (.iload_n 1, 1) := by decide +kernel
theorem dX12_isOpen_66 : decode cX12_isOpen 66 = .ok (.iadd, 1) := by decide +kernel
theorem dX12_isOpen_67 : decode cX12_isOpen 67 = .ok (.iaload, 1) := by decide +kernel
theorem dX12_isOpen_68 : decode cX12_isOpen 68 = .ok (.iastore, 1) := by decide +kernel
theorem dX12_isOpen_69 : decode cX12_isOpen 69 = .ok (.aload_n 0, 1) := by decide +kernel
theorem dX12_isOpen_70 : decode cX12_isOpen 70 = .ok (.iconst 1, 1) := by decide +kernel
theorem dX12_isOpen_71 : decode cX12_isOpen 71 = .ok (.aload_n 0, 1) := by decide +kernel
theorem dX12_isOpen_72 : decode cX12_isOpen 72 = .ok (.getfield 13, 3) := by decide +kernel
theorem dX12_isOpen_75 : decode cX12_isOpen 75 = .ok (.bipush 64, 2) := by decide +kernel
theorem dX12_isOpen_77 : decode cX12_isOpen 77 = .ok (.iaload, 1) := by decide +kernel
theorem dX12_isOpen_78 : decode cX12_isOpen 78 = .ok (.aload_n 0, 1) := by decide +kernel
theorem dX12_isOpen_79 : decode cX12_isOpen 79 = .ok (.iconst 0, 1) := by decide +kernel
theorem dX12_isOpen_80 : decode cX12_isOpen 80 = .ok (.invokevirtual 204, 3) := by decide +kernel
theorem dX12_isOpen_83 : decode cX12_isOpen 83 = .ok (.invokevirtual 207, 3) := by decide +kernel
theorem dX12_isOpen_86 : decode cX12_isOpen 86 = .ok (.iconst 1, 1) := by decide +kernel
theorem dX12_isOpen_87 : decode cX12_isOpen 87 = .ok (.if_icmp .ne 7, 3) := by decide +kernel
theorem dX12_isOpen_90 : decode cX12_isOpen 90 = .ok (.iconst 1, 1) := by decide +kernel
theorem dX12_isOpen_91 : decode cX12_isOpen 91 = .ok (.goto 4, 3) := by decide +kernel
theorem dX12_isOpen_94 : decode cX12_isOpen 94 = .ok (.iconst 0, 1) := by decide +kernel
theorem dX12_isOpen_95 : decode cX12_isOpen 95 = .ok (.ireturn, 1) := by decide +kernel
theorem dX12_heardMany_0 : decode cX12_heardMany 0 = .ok (.iconst 0, 1) := by decide +kernel
theorem dX12_heardMany_1 : decode cX12_heardMany 1 = .ok (.istore_n 2, 1) := by decide +kernel
theorem dX12_heardMany_2 : decode cX12_heardMany 2 = .ok (.iconst 0, 1) := by decide +kernel
theorem dX12_heardMany_3 : decode cX12_heardMany 3 = .ok (.istore_n 3, 1) := by decide +kernel
theorem dX12_heardMany_4 : decode cX12_heardMany 4 = .ok (.iload_n 3, 1) := by decide +kernel
theorem dX12_heardMany_5 : decode cX12_heardMany 5 = .ok (.aload_n 0, 1) := by decide +kernel
theorem dX12_heardMany_6 : decode cX12_heardMany 6 = .ok (.getfield 13, 3) := by decide +kernel
theorem dX12_heardMany_9 : decode cX12_heardMany 9 = .ok (.bipush 67, 2) := by decide +kernel
theorem dX12_heardMany_11 : decode cX12_heardMany 11 = .ok (.iaload, 1) := by decide +kernel
theorem dX12_heardMany_12 : decode cX12_heardMany 12 = .ok (.if_icmp .ge 25, 3) := by decide +kernel
theorem dX12_heardMany_15 : decode cX12_heardMany 15 = .ok (.iload_n 2, 1) := by decide +kernel
theorem dX12_heardMany_16 : decode cX12_heardMany 16 = .ok (.aload_n 0, 1) := by decide +kernel
theorem dX12_heardMany_17 : decode cX12_heardMany 17 = .ok (.getfield 13, 3) := by decide +kernel
theorem dX12_heardMany_20 : decode cX12_heardMany 20 = .ok (.bipush 92, 2) := by decide +kernel
theorem dX12_heardMany_22 : decode cX12_heardMany 22 = .ok (.iload_n 3, 1) := by decide +kernel
theorem dX12_heardMany_23 : decode cX12_heardMany 23 = .ok (.iadd, 1) := by decide +kernel
theorem dX12_heardMany_24 : decode cX12_heardMany 24 = .ok (.iaload, 1) := by decide +kernel
theorem dX12_heardMany_25 : decode cX12_heardMany 25 = .ok (.iload_n 1, 1) := by decide +kernel
theorem dX12_heardMany_26 : decode cX12_heardMany 26 = .ok (.ishr, 1) := by decide +kernel
theorem dX12_heardMany_27 : decode cX12_heardMany 27 = .ok (.iconst 1, 1) := by decide +kernel
theorem dX12_heardMany_28 : decode cX12_heardMany 28 = .ok (.iand, 1) := by decide +kernel
theorem dX12_heardMany_29 : decode cX12_heardMany 29 = .ok (.iadd, 1) := by decide +kernel
theorem dX12_heardMany_30 : decode cX12_heardMany 30 = .ok (.istore_n 2, 1) := by decide +kernel
theorem dX12_heardMany_31 : decode cX12_heardMany 31 = .ok (.iinc 3 1, 3) := by decide +kernel
theorem dX12_heardMany_34 : decode cX12_heardMany 34 = .ok (.goto (-30), 3) := by decide +kernel
theorem dX12_heardMany_37 : decode cX12_heardMany 37 = .ok (.iload_n 2, 1) := by decide +kernel
theorem dX12_heardMany_38 : decode cX12_heardMany 38 = .ok (.ireturn, 1) := by decide +kernel
theorem dX12_listens_0 : decode cX12_listens 0 = .ok (.aload_n 0, 1) := by decide +kernel
theorem dX12_listens_1 : decode cX12_listens 1 = .ok (.getfield 13, 3) := by decide +kernel
theorem dX12_listens_4 : decode cX12_listens 4 = .ok (.bipush 50, 2) := by decide +kernel
theorem dX12_listens_6 : decode cX12_listens 6 = .ok (.iload_n 1, 1) := by decide +kernel
theorem dX12_listens_7 : decode cX12_listens 7 = .ok (.iadd, 1) := by decide +kernel
theorem dX12_listens_8 : decode cX12_listens 8 = .ok (.iaload, 1) := by decide +kernel
theorem dX12_listens_9 : decode cX12_listens 9 = .ok (.iconst 1, 1) := by decide +kernel
theorem dX12_listens_10 : decode cX12_listens 10 = .ok (.if_icmp .ne 5, 3) := by decide +kernel
theorem dX12_listens_13 : decode cX12_listens 13 = .ok (.iconst 0, 1) := by decide +kernel
theorem dX12_listens_14 : decode cX12_listens 14 = .ok (.ireturn, 1) := by decide +kernel
theorem dX12_listens_15 : decode cX12_listens 15 = .ok (.aload_n 0, 1) := by decide +kernel
theorem dX12_listens_16 : decode cX12_listens 16 = .ok (.getfield 13, 3) := by decide +kernel
theorem dX12_listens_19 : decode cX12_listens 19 = .ok (.bipush 7, 2) := by decide +kernel
theorem dX12_listens_21 : decode cX12_listens 21 = .ok (.iaload, 1) := by decide +kernel
theorem dX12_listens_22 : decode cX12_listens 22 = .ok (.ifCond .ne 5, 3) := by decide +kernel
theorem dX12_listens_25 : decode cX12_listens 25 = .ok (.iconst 1, 1) := by decide +kernel
theorem dX12_listens_26 : decode cX12_listens 26 = .ok (.ireturn, 1) := by decide +kernel
theorem dX12_listens_27 : decode cX12_listens 27 = .ok (.aload_n 0, 1) := by decide +kernel
theorem dX12_listens_28 : decode cX12_listens 28 = .ok (.getfield 33, 3) := by decide +kernel
theorem dX12_listens_31 : decode cX12_listens 31 = .ok (.bipush 6, 2) := by decide +kernel
theorem dX12_listens_33 : decode cX12_listens 33 = .ok (.iload_n 1, 1) := by decide +kernel
theorem dX12_listens_34 : decode cX12_listens 34 = .ok (.iastore, 1) := by decide +kernel
theorem dX12_listens_35 : decode cX12_listens 35 = .ok (.aload_n 0, 1) := by decide +kernel
theorem dX12_listens_36 : decode cX12_listens 36 = .ok (.getfield 33, 3) := by decide +kernel
theorem dX12_listens_39 : decode cX12_listens 39 = .ok (.bipush 7, 2) := by decide +kernel
theorem dX12_listens_41 : decode cX12_listens 41 = .ok (.aload_n 0, 1) := by decide +kernel
theorem dX12_listens_42 : decode cX12_listens 42 = .ok (.getfield 13, 3) := by decide +kernel
theorem dX12_listens_45 : decode cX12_listens 45 = .ok (.bipush 44, 2) := by decide +kernel
theorem dX12_listens_47 : decode cX12_listens 47 = .ok (.iload_n 1, 1) := by decide +kernel
theorem dX12_listens_48 : decode cX12_listens 48 = .ok (.iadd, 1) := by decide +kernel
theorem dX12_listens_49 : decode cX12_listens 49 = .ok (.iaload, 1) := by decide +kernel
theorem dX12_listens_50 : decode cX12_listens 50 = .ok (.iconst (-1), 1) := by decide +kernel
theorem dX12_listens_51 : decode cX12_listens 51 = .ok (.if_icmp .ne 8, 3) := by decide +kernel
theorem dX12_listens_54 : decode cX12_listens 54 = .ok (.bipush 6, 2) := by decide +kernel
theorem dX12_listens_56 : decode cX12_listens 56 = .ok (.goto 12, 3) := by decide +kernel
theorem dX12_listens_59 : decode cX12_listens 59 = .ok (.aload_n 0, 1) := by decide +kernel
theorem dX12_listens_60 : decode cX12_listens 60 = .ok (.getfield 13, 3) := by decide +kernel
theorem dX12_listens_63 : decode cX12_listens 63 = .ok (.bipush 44, 2) := by decide +kernel
theorem dX12_listens_65 : decode cX12_listens 65 = .ok (.iload_n 1, 1) := by decide +kernel
theorem dX12_listens_66 : decode cX12_listens 66 = .ok (.iadd, 1) := by decide +kernel
theorem dX12_listens_67 : decode cX12_listens 67 = .ok (.iaload, 1) := by decide +kernel
theorem dX12_listens_68 : decode cX12_listens 68 = .ok (.iastore, 1) := by decide +kernel
theorem dX12_listens_69 : decode cX12_listens 69 = .ok (.aload_n 0, 1) := by decide +kernel
theorem dX12_listens_70 : decode cX12_listens 70 = .ok (.getfield 33, 3) := by decide +kernel
theorem dX12_listens_73 : decode cX12_listens 73 = .ok (.bipush 8, 2) := by decide +kernel
theorem dX12_listens_75 : decode cX12_listens 75 = .ok (.aload_n 0, 1) := by decide +kernel
theorem dX12_listens_76 : decode cX12_listens 76 = .ok (.iload_n 1, 1) := by decide +kernel
theorem dX12_listens_77 : decode cX12_listens 77 = .ok (.invokevirtual 210, 3) := by decide +kernel
theorem dX12_listens_80 : decode cX12_listens 80 = .ok (.iastore, 1) := by decide +kernel
theorem dX12_listens_81 : decode cX12_listens 81 = .ok (.aload_n 0, 1) := by decide +kernel
theorem dX12_listens_82 : decode cX12_listens 82 = .ok (.iconst 2, 1) := by decide +kernel
theorem dX12_listens_83 : decode cX12_listens 83 = .ok (.aload_n 0, 1) := by decide +kernel
theorem dX12_listens_84 : decode cX12_listens 84 = .ok (.getfield 13, 3) := by decide +kernel
theorem dX12_listens_87 : decode cX12_listens 87 = .ok (.bipush 64, 2) := by decide +kernel
theorem dX12_listens_89 : decode cX12_listens 89 = .ok (.iaload, 1) := by decide +kernel
theorem dX12_listens_90 : decode cX12_listens 90 = .ok (.aload_n 0, 1) := by decide +kernel
theorem dX12_listens_91 : decode cX12_listens 91 = .ok (.iconst 0, 1) := by decide +kernel
theorem dX12_listens_92 : decode cX12_listens 92 = .ok (.invokevirtual 204, 3) := by decide +kernel
theorem dX12_listens_95 : decode cX12_listens 95 = .ok (.invokevirtual 207, 3) := by decide +kernel
theorem dX12_listens_98 : decode cX12_listens 98 = .ok (.iconst 1, 1) := by decide +kernel
theorem dX12_listens_99 : decode cX12_listens 99 = .ok (.if_icmp .ne 7, 3) := by decide +kernel
theorem dX12_listens_102 : decode cX12_listens 102 = .ok (.iconst 1, 1) := by decide +kernel
theorem dX12_listens_103 : decode cX12_listens 103 = .ok (.goto 4, 3) := by decide +kernel
theorem dX12_listens_106 : decode cX12_listens 106 = .ok (.iconst 0, 1) := by decide +kernel
theorem dX12_listens_107 : decode cX12_listens 107 = .ok (.ireturn, 1) := by decide +kernel
theorem dX12_hearsAt_0 : decode cX12_hearsAt 0 = .ok (.aload_n 0, 1) := by decide +kernel
theorem dX12_hearsAt_1 : decode cX12_hearsAt 1 = .ok (.getfield 13, 3) := by decide +kernel
theorem dX12_hearsAt_4 : decode cX12_hearsAt 4 = .ok (.bipush 44, 2) := by decide +kernel
theorem dX12_hearsAt_6 : decode cX12_hearsAt 6 = .ok (.iload_n 1, 1) := by decide +kernel
theorem dX12_hearsAt_7 : decode cX12_hearsAt 7 = .ok (.iadd, 1) := by decide +kernel
theorem dX12_hearsAt_8 : decode cX12_hearsAt 8 = .ok (.iaload, 1) := by decide +kernel
theorem dX12_hearsAt_9 : decode cX12_hearsAt 9 = .ok (.iconst (-1), 1) := by decide +kernel
theorem dX12_hearsAt_10 : decode cX12_hearsAt 10 = .ok (.if_icmp .ne 7, 3) := by decide +kernel
theorem dX12_hearsAt_13 : decode cX12_hearsAt 13 = .ok (.iconst 0, 1) := by decide +kernel
theorem dX12_hearsAt_14 : decode cX12_hearsAt 14 = .ok (.goto 14, 3) := by decide +kernel
theorem dX12_hearsAt_17 : decode cX12_hearsAt 17 = .ok (.iconst 1, 1) := by decide +kernel
theorem dX12_hearsAt_18 : decode cX12_hearsAt 18 = .ok (.aload_n 0, 1) := by decide +kernel
theorem dX12_hearsAt_19 : decode cX12_hearsAt 19 = .ok (.getfield 13, 3) := by decide +kernel
theorem dX12_hearsAt_22 : decode cX12_hearsAt 22 = .ok (.bipush 44, 2) := by decide +kernel
theorem dX12_hearsAt_24 : decode cX12_hearsAt 24 = .ok (.iload_n 1, 1) := by decide +kernel
theorem dX12_hearsAt_25 : decode cX12_hearsAt 25 = .ok (.iadd, 1) := by decide +kernel
theorem dX12_hearsAt_26 : decode cX12_hearsAt 26 = .ok (.iaload, 1) := by decide +kernel
theorem dX12_hearsAt_27 : decode cX12_hearsAt 27 = .ok (.ishl, 1) := by decide +kernel
theorem dX12_hearsAt_28 : decode cX12_hearsAt 28 = .ok (.istore_n 2, 1) := by decide +kernel
theorem dX12_hearsAt_29 : decode cX12_hearsAt 29 = .ok (.iconst 0, 1) := by decide +kernel
theorem dX12_hearsAt_30 : decode cX12_hearsAt 30 = .ok (.istore_n 3, 1) := by decide +kernel
theorem dX12_hearsAt_31 : decode cX12_hearsAt 31 = .ok (.iload_n 3, 1) := by decide +kernel
theorem dX12_hearsAt_32 : decode cX12_hearsAt 32 = .ok (.aload_n 0, 1) := by decide +kernel
theorem dX12_hearsAt_33 : decode cX12_hearsAt 33 = .ok (.getfield 13, 3) := by decide +kernel
theorem dX12_hearsAt_36 : decode cX12_hearsAt 36 = .ok (.iconst 4, 1) := by decide +kernel
theorem dX12_hearsAt_37 : decode cX12_hearsAt 37 = .ok (.iaload, 1) := by decide +kernel
theorem dX12_hearsAt_38 : decode cX12_hearsAt 38 = .ok (.if_icmp .ge 40, 3) := by decide +kernel
theorem dX12_hearsAt_41 : decode cX12_hearsAt 41 = .ok (.iload_n 2, 1) := by decide +kernel
theorem dX12_hearsAt_42 : decode cX12_hearsAt 42 = .ok (.aload_n 0, 1) := by decide +kernel
theorem dX12_hearsAt_43 : decode cX12_hearsAt 43 = .ok (.getfield 13, 3) := by decide +kernel
theorem dX12_hearsAt_46 : decode cX12_hearsAt 46 = .ok (.bipush 68, 2) := by decide +kernel
theorem dX12_hearsAt_48 : decode cX12_hearsAt 48 = .ok (.iload_n 3, 1) := by decide +kernel
theorem dX12_hearsAt_49 : decode cX12_hearsAt 49 = .ok (.iadd, 1) := by decide +kernel
theorem dX12_hearsAt_50 : decode cX12_hearsAt 50 = .ok (.iaload, 1) := by decide +kernel
theorem dX12_hearsAt_51 : decode cX12_hearsAt 51 = .ok (.iload_n 1, 1) := by decide +kernel
theorem dX12_hearsAt_52 : decode cX12_hearsAt 52 = .ok (.if_icmp .ne 17, 3) := by decide +kernel
theorem dX12_hearsAt_55 : decode cX12_hearsAt 55 = .ok (.iconst 1, 1) := by decide +kernel
theorem dX12_hearsAt_56 : decode cX12_hearsAt 56 = .ok (.aload_n 0, 1) := by decide +kernel
theorem dX12_hearsAt_57 : decode cX12_hearsAt 57 = .ok (.getfield 13, 3) := by decide +kernel
theorem dX12_hearsAt_60 : decode cX12_hearsAt 60 = .ok (.bipush 56, 2) := by decide +kernel
theorem dX12_hearsAt_62 : decode cX12_hearsAt 62 = .ok (.iload_n 3, 1) := by decide +kernel
theorem dX12_hearsAt_63 : decode cX12_hearsAt 63 = .ok (.iadd, 1) := by decide +kernel
theorem dX12_hearsAt_64 : decode cX12_hearsAt 64 = .ok (.iaload, 1) := by decide +kernel
theorem dX12_hearsAt_65 : decode cX12_hearsAt 65 = .ok (.ishl, 1) := by decide +kernel
theorem dX12_hearsAt_66 : decode cX12_hearsAt 66 = .ok (.goto 4, 3) := by decide +kernel
theorem dX12_hearsAt_69 : decode cX12_hearsAt 69 = .ok (.iconst 0, 1) := by decide +kernel
theorem dX12_hearsAt_70 : decode cX12_hearsAt 70 = .ok (.ior, 1) := by decide +kernel
theorem dX12_hearsAt_71 : decode cX12_hearsAt 71 = .ok (.istore_n 2, 1) := by decide +kernel
theorem dX12_hearsAt_72 : decode cX12_hearsAt 72 = .ok (.iinc 3 1, 3) := by decide +kernel
theorem dX12_hearsAt_75 : decode cX12_hearsAt 75 = .ok (.goto (-44), 3) := by decide +kernel
theorem dX12_hearsAt_78 : decode cX12_hearsAt 78 = .ok (.iload_n 2, 1) := by decide +kernel
theorem dX12_hearsAt_79 : decode cX12_hearsAt 79 = .ok (.ireturn, 1) := by decide +kernel
theorem dX12_holdsOf_0 : decode cX12_holdsOf 0 = .ok (.iconst 0, 1) := by decide +kernel
theorem dX12_holdsOf_1 : decode cX12_holdsOf 1 = .ok (.istore_n 2, 1) := by decide +kernel
theorem dX12_holdsOf_2 : decode cX12_holdsOf 2 = .ok (.iconst 0, 1) := by decide +kernel
theorem dX12_holdsOf_3 : decode cX12_holdsOf 3 = .ok (.istore_n 3, 1) := by decide +kernel
theorem dX12_holdsOf_4 : decode cX12_holdsOf 4 = .ok (.iload_n 3, 1) := by decide +kernel
theorem dX12_holdsOf_5 : decode cX12_holdsOf 5 = .ok (.aload_n 0, 1) := by decide +kernel
theorem dX12_holdsOf_6 : decode cX12_holdsOf 6 = .ok (.getfield 13, 3) := by decide +kernel
theorem dX12_holdsOf_9 : decode cX12_holdsOf 9 = .ok (.iconst 4, 1) := by decide +kernel
theorem dX12_holdsOf_10 : decode cX12_holdsOf 10 = .ok (.iaload, 1) := by decide +kernel
theorem dX12_holdsOf_11 : decode cX12_holdsOf 11 = .ok (.if_icmp .ge 32, 3) := by decide +kernel
theorem dX12_holdsOf_14 : decode cX12_holdsOf 14 = .ok (.iload_n 2, 1) := by decide +kernel
theorem dX12_holdsOf_15 : decode cX12_holdsOf 15 = .ok (.aload_n 0, 1) := by decide +kernel
theorem dX12_holdsOf_16 : decode cX12_holdsOf 16 = .ok (.getfield 13, 3) := by decide +kernel
theorem dX12_holdsOf_19 : decode cX12_holdsOf 19 = .ok (.bipush 68, 2) := by decide +kernel
theorem dX12_holdsOf_21 : decode cX12_holdsOf 21 = .ok (.iload_n 3, 1) := by decide +kernel
theorem dX12_holdsOf_22 : decode cX12_holdsOf 22 = .ok (.iadd, 1) := by decide +kernel
theorem dX12_holdsOf_23 : decode cX12_holdsOf 23 = .ok (.iaload, 1) := by decide +kernel
theorem dX12_holdsOf_24 : decode cX12_holdsOf 24 = .ok (.iload_n 1, 1) := by decide +kernel
theorem dX12_holdsOf_25 : decode cX12_holdsOf 25 = .ok (.if_icmp .ne 9, 3) := by decide +kernel
theorem dX12_holdsOf_28 : decode cX12_holdsOf 28 = .ok (.iconst 1, 1) := by decide +kernel
theorem dX12_holdsOf_29 : decode cX12_holdsOf 29 = .ok (.iload_n 3, 1) := by decide +kernel
theorem dX12_holdsOf_30 : decode cX12_holdsOf 30 = .ok (.ishl, 1) := by decide +kernel
theorem dX12_holdsOf_31 : decode cX12_holdsOf 31 = .ok (.goto 4, 3) := by decide +kernel
theorem dX12_holdsOf_34 : decode cX12_holdsOf 34 = .ok (.iconst 0, 1) := by decide +kernel
theorem dX12_holdsOf_35 : decode cX12_holdsOf 35 = .ok (.ior, 1) := by decide +kernel
theorem dX12_holdsOf_36 : decode cX12_holdsOf 36 = .ok (.istore_n 2, 1) := by decide +kernel
theorem dX12_holdsOf_37 : decode cX12_holdsOf 37 = .ok (.iinc 3 1, 3) := by decide +kernel
theorem dX12_holdsOf_40 : decode cX12_holdsOf 40 = .ok (.goto (-36), 3) := by decide +kernel
theorem dX12_holdsOf_43 : decode cX12_holdsOf 43 = .ok (.iload_n 2, 1) := by decide +kernel
theorem dX12_holdsOf_44 : decode cX12_holdsOf 44 = .ok (.ireturn, 1) := by decide +kernel
theorem dX12_heardBy_0 : decode cX12_heardBy 0 = .ok (.iconst 0, 1) := by decide +kernel
theorem dX12_heardBy_1 : decode cX12_heardBy 1 = .ok (.istore_n 2, 1) := by decide +kernel
theorem dX12_heardBy_2 : decode cX12_heardBy 2 = .ok (.iconst 0, 1) := by decide +kernel
theorem dX12_heardBy_3 : decode cX12_heardBy 3 = .ok (.istore_n 3, 1) := by decide +kernel
theorem dX12_heardBy_4 : decode cX12_heardBy 4 = .ok (.iload_n 3, 1) := by decide +kernel
theorem dX12_heardBy_5 : decode cX12_heardBy 5 = .ok (.aload_n 0, 1) := by decide +kernel
theorem dX12_heardBy_6 : decode cX12_heardBy 6 = .ok (.getfield 13, 3) := by decide +kernel
theorem dX12_heardBy_9 : decode cX12_heardBy 9 = .ok (.bipush 67, 2) := by decide +kernel
theorem dX12_heardBy_11 : decode cX12_heardBy 11 = .ok (.iaload, 1) := by decide +kernel
theorem dX12_heardBy_12 : decode cX12_heardBy 12 = .ok (.if_icmp .ge 36, 3) := by decide +kernel
theorem dX12_heardBy_15 : decode cX12_heardBy 15 = .ok (.iload_n 2, 1) := by decide +kernel
theorem dX12_heardBy_16 : decode cX12_heardBy 16 = .ok (.aload_n 0, 1) := by decide +kernel
theorem dX12_heardBy_17 : decode cX12_heardBy 17 = .ok (.getfield 13, 3) := by decide +kernel
theorem dX12_heardBy_20 : decode cX12_heardBy 20 = .ok (.bipush 92, 2) := by decide +kernel
theorem dX12_heardBy_22 : decode cX12_heardBy 22 = .ok (.iload_n 3, 1) := by decide +kernel
theorem dX12_heardBy_23 : decode cX12_heardBy 23 = .ok (.iadd, 1) := by decide +kernel
theorem dX12_heardBy_24 : decode cX12_heardBy 24 = .ok (.iaload, 1) := by decide +kernel
theorem dX12_heardBy_25 : decode cX12_heardBy 25 = .ok (.i2l, 1) := by decide +kernel
theorem dX12_heardBy_26 : decode cX12_heardBy 26 = .ok (.iload_n 1, 1) := by decide +kernel
theorem dX12_heardBy_27 : decode cX12_heardBy 27 = .ok (.invokestatic 213, 3) := by decide +kernel
theorem dX12_heardBy_30 : decode cX12_heardBy 30 = .ok (.ifCond .eq 9, 3) := by decide +kernel
theorem dX12_heardBy_33 : decode cX12_heardBy 33 = .ok (.iconst 1, 1) := by decide +kernel
theorem dX12_heardBy_34 : decode cX12_heardBy 34 = .ok (.iload_n 3, 1) := by decide +kernel
theorem dX12_heardBy_35 : decode cX12_heardBy 35 = .ok (.ishl, 1) := by decide +kernel
theorem dX12_heardBy_36 : decode cX12_heardBy 36 = .ok (.goto 4, 3) := by decide +kernel
theorem dX12_heardBy_39 : decode cX12_heardBy 39 = .ok (.iconst 0, 1) := by decide +kernel
theorem dX12_heardBy_40 : decode cX12_heardBy 40 = .ok (.ior, 1) := by decide +kernel
theorem dX12_heardBy_41 : decode cX12_heardBy 41 = .ok (.istore_n 2, 1) := by decide +kernel
theorem dX12_heardBy_42 : decode cX12_heardBy 42 = .ok (.iinc 3 1, 3) := by decide +kernel
theorem dX12_heardBy_45 : decode cX12_heardBy 45 = .ok (.goto (-41), 3) := by decide +kernel
theorem dX12_heardBy_48 : decode cX12_heardBy 48 = .ok (.iload_n 2, 1) := by decide +kernel
theorem dX12_heardBy_49 : decode cX12_heardBy 49 = .ok (.ireturn, 1) := by decide +kernel
theorem dX12_current_0 : decode cX12_current 0 = .ok (.aload_n 0, 1) := by decide +kernel
theorem dX12_current_1 : decode cX12_current 1 = .ok (.iconst 0, 1) := by decide +kernel
theorem dX12_current_2 : decode cX12_current 2 = .ok (.putfield 1, 3) := by decide +kernel
theorem dX12_current_5 : decode cX12_current 5 = .ok (.aload_n 0, 1) := by decide +kernel
theorem dX12_current_6 : decode cX12_current 6 = .ok (.iload_n 1, 1) := by decide +kernel
theorem dX12_current_7 : decode cX12_current 7 = .ok (.i2l, 1) := by decide +kernel
theorem dX12_current_8 : decode cX12_current 8 = .ok (.invokevirtual 217, 3) := by decide +kernel
theorem dX12_current_11 : decode cX12_current 11 = .ok (.ifCond .ne 6, 3) := by decide +kernel
theorem dX12_current_14 : decode cX12_current 14 = .ok (.bipush (-2), 2) := by decide +kernel
theorem dX12_current_16 : decode cX12_current 16 = .ok (.ireturn, 1) := by decide +kernel
theorem dX12_current_17 : decode cX12_current 17 = .ok (.iload_n 2, 1) := by decide +kernel
theorem dX12_current_18 : decode cX12_current 18 = .ok (.tableswitch 74 0 3 #[30, 40, 50, 60], 30) := by decide +kernel
theorem dX12_current_48 : decode cX12_current 48 = .ok (.aload_n 0, 1) := by decide +kernel
theorem dX12_current_49 : decode cX12_current 49 = .ok (.getfield 13, 3) := by decide +kernel
theorem dX12_current_52 : decode cX12_current 52 = .ok (.bipush 14, 2) := by decide +kernel
theorem dX12_current_54 : decode cX12_current 54 = .ok (.iload_n 1, 1) := by decide +kernel
theorem dX12_current_55 : decode cX12_current 55 = .ok (.iadd, 1) := by decide +kernel
theorem dX12_current_56 : decode cX12_current 56 = .ok (.iaload, 1) := by decide +kernel
theorem dX12_current_57 : decode cX12_current 57 = .ok (.ireturn, 1) := by decide +kernel
theorem dX12_current_58 : decode cX12_current 58 = .ok (.aload_n 0, 1) := by decide +kernel
theorem dX12_current_59 : decode cX12_current 59 = .ok (.getfield 13, 3) := by decide +kernel
theorem dX12_current_62 : decode cX12_current 62 = .ok (.bipush 24, 2) := by decide +kernel
theorem dX12_current_64 : decode cX12_current 64 = .ok (.iload_n 1, 1) := by decide +kernel
theorem dX12_current_65 : decode cX12_current 65 = .ok (.iadd, 1) := by decide +kernel
theorem dX12_current_66 : decode cX12_current 66 = .ok (.iaload, 1) := by decide +kernel
theorem dX12_current_67 : decode cX12_current 67 = .ok (.ireturn, 1) := by decide +kernel
theorem dX12_current_68 : decode cX12_current 68 = .ok (.aload_n 0, 1) := by decide +kernel
theorem dX12_current_69 : decode cX12_current 69 = .ok (.getfield 13, 3) := by decide +kernel
theorem dX12_current_72 : decode cX12_current 72 = .ok (.bipush 34, 2) := by decide +kernel
theorem dX12_current_74 : decode cX12_current 74 = .ok (.iload_n 1, 1) := by decide +kernel
theorem dX12_current_75 : decode cX12_current 75 = .ok (.iadd, 1) := by decide +kernel
theorem dX12_current_76 : decode cX12_current 76 = .ok (.iaload, 1) := by decide +kernel
theorem dX12_current_77 : decode cX12_current 77 = .ok (.ireturn, 1) := by decide +kernel
theorem dX12_current_78 : decode cX12_current 78 = .ok (.aload_n 0, 1) := by decide +kernel
theorem dX12_current_79 : decode cX12_current 79 = .ok (.iload_n 1, 1) := by decide +kernel
theorem dX12_current_80 : decode cX12_current 80 = .ok (.invokevirtual 221, 3) := by decide +kernel
theorem dX12_current_83 : decode cX12_current 83 = .ok (.ifCond .eq 7, 3) := by decide +kernel
theorem dX12_current_86 : decode cX12_current 86 = .ok (.iconst 1, 1) := by decide +kernel
theorem dX12_current_87 : decode cX12_current 87 = .ok (.goto 4, 3) := by decide +kernel
theorem dX12_current_90 : decode cX12_current 90 = .ok (.iconst 0, 1) := by decide +kernel
theorem dX12_current_91 : decode cX12_current 91 = .ok (.ireturn, 1) := by decide +kernel
theorem dX12_current_92 : decode cX12_current 92 = .ok (.bipush (-2), 2) := by decide +kernel
theorem dX12_current_94 : decode cX12_current 94 = .ok (.ireturn, 1) := by decide +kernel
theorem dX12_person_0 : decode cX12_person 0 = .ok (.aload_n 0, 1) := by decide +kernel
theorem dX12_person_1 : decode cX12_person 1 = .ok (.iconst 0, 1) := by decide +kernel
theorem dX12_person_2 : decode cX12_person 2 = .ok (.putfield 1, 3) := by decide +kernel
theorem dX12_person_5 : decode cX12_person 5 = .ok (.aload_n 0, 1) := by decide +kernel
theorem dX12_person_6 : decode cX12_person 6 = .ok (.iload_n 1, 1) := by decide +kernel
theorem dX12_person_7 : decode cX12_person 7 = .ok (.i2l, 1) := by decide +kernel
theorem dX12_person_8 : decode cX12_person 8 = .ok (.invokevirtual 224, 3) := by decide +kernel
theorem dX12_person_11 : decode cX12_person 11 = .ok (.ifCond .ne 6, 3) := by decide +kernel
theorem dX12_person_14 : decode cX12_person 14 = .ok (.bipush (-2), 2) := by decide +kernel
theorem dX12_person_16 : decode cX12_person 16 = .ok (.ireturn, 1) := by decide +kernel
theorem dX12_person_17 : decode cX12_person 17 = .ok (.iload_n 2, 1) := by decide +kernel
theorem dX12_person_18 : decode cX12_person 18 = .ok (.tableswitch 80 0 4 #[34, 44, 54, 60, 66], 34) := by decide +kernel
theorem dX12_person_52 : decode cX12_person 52 = .ok (.aload_n 0, 1) := by decide +kernel
theorem dX12_person_53 : decode cX12_person 53 = .ok (.getfield 13, 3) := by decide +kernel
theorem dX12_person_56 : decode cX12_person 56 = .ok (.bipush 44, 2) := by decide +kernel
theorem dX12_person_58 : decode cX12_person 58 = .ok (.iload_n 1, 1) := by decide +kernel
theorem dX12_person_59 : decode cX12_person 59 = .ok (.iadd, 1) := by decide +kernel
theorem dX12_person_60 : decode cX12_person 60 = .ok (.iaload, 1) := by decide +kernel
theorem dX12_person_61 : decode cX12_person 61 = .ok (.ireturn, 1) := by decide +kernel
theorem dX12_person_62 : decode cX12_person 62 = .ok (.aload_n 0, 1) := by decide +kernel
theorem dX12_person_63 : decode cX12_person 63 = .ok (.getfield 13, 3) := by decide +kernel
theorem dX12_person_66 : decode cX12_person 66 = .ok (.bipush 50, 2) := by decide +kernel
theorem dX12_person_68 : decode cX12_person 68 = .ok (.iload_n 1, 1) := by decide +kernel
theorem dX12_person_69 : decode cX12_person 69 = .ok (.iadd, 1) := by decide +kernel
theorem dX12_person_70 : decode cX12_person 70 = .ok (.iaload, 1) := by decide +kernel
theorem dX12_person_71 : decode cX12_person 71 = .ok (.ireturn, 1) := by decide +kernel
theorem dX12_person_72 : decode cX12_person 72 = .ok (.aload_n 0, 1) := by decide +kernel
theorem dX12_person_73 : decode cX12_person 73 = .ok (.iload_n 1, 1) := by decide +kernel
theorem dX12_person_74 : decode cX12_person 74 = .ok (.invokevirtual 227, 3) := by decide +kernel
theorem dX12_person_77 : decode cX12_person 77 = .ok (.ireturn, 1) := by decide +kernel
theorem dX12_person_78 : decode cX12_person 78 = .ok (.aload_n 0, 1) := by decide +kernel
theorem dX12_person_79 : decode cX12_person 79 = .ok (.iload_n 1, 1) := by decide +kernel
theorem dX12_person_80 : decode cX12_person 80 = .ok (.invokevirtual 230, 3) := by decide +kernel
theorem dX12_person_83 : decode cX12_person 83 = .ok (.ireturn, 1) := by decide +kernel
theorem dX12_person_84 : decode cX12_person 84 = .ok (.aload_n 0, 1) := by decide +kernel
theorem dX12_person_85 : decode cX12_person 85 = .ok (.iload_n 1, 1) := by decide +kernel
theorem dX12_person_86 : decode cX12_person 86 = .ok (.invokevirtual 233, 3) := by decide +kernel
theorem dX12_person_89 : decode cX12_person 89 = .ok (.ifCond .eq 7, 3) := by decide +kernel
theorem dX12_person_92 : decode cX12_person 92 = .ok (.iconst 1, 1) := by decide +kernel
theorem dX12_person_93 : decode cX12_person 93 = .ok (.goto 4, 3) := by decide +kernel
theorem dX12_person_96 : decode cX12_person 96 = .ok (.iconst 0, 1) := by decide +kernel
theorem dX12_person_97 : decode cX12_person 97 = .ok (.ireturn, 1) := by decide +kernel
theorem dX12_person_98 : decode cX12_person 98 = .ok (.bipush (-2), 2) := by decide +kernel
theorem dX12_person_100 : decode cX12_person 100 = .ok (.ireturn, 1) := by decide +kernel
theorem dX12_shell_0 : decode cX12_shell 0 = .ok (.aload_n 0, 1) := by decide +kernel
theorem dX12_shell_1 : decode cX12_shell 1 = .ok (.iconst 0, 1) := by decide +kernel
theorem dX12_shell_2 : decode cX12_shell 2 = .ok (.putfield 1, 3) := by decide +kernel
theorem dX12_shell_5 : decode cX12_shell 5 = .ok (.aload_n 0, 1) := by decide +kernel
theorem dX12_shell_6 : decode cX12_shell 6 = .ok (.iload_n 1, 1) := by decide +kernel
theorem dX12_shell_7 : decode cX12_shell 7 = .ok (.i2l, 1) := by decide +kernel
theorem dX12_shell_8 : decode cX12_shell 8 = .ok (.invokevirtual 236, 3) := by decide +kernel
theorem dX12_shell_11 : decode cX12_shell 11 = .ok (.ifCond .eq 13, 3) := by decide +kernel
theorem dX12_shell_14 : decode cX12_shell 14 = .ok (.iload_n 2, 1) := by decide +kernel
theorem dX12_shell_15 : decode cX12_shell 15 = .ok (.i2l, 1) := by decide +kernel
theorem dX12_shell_16 : decode cX12_shell 16 = .ok (.lconst 0, 1) := by decide +kernel
theorem dX12_shell_17 : decode cX12_shell 17 = .ok (.lconst 1, 1) := by decide +kernel
theorem dX12_shell_18 : decode cX12_shell 18 = .ok (.invokestatic 130, 3) := by decide +kernel
theorem dX12_shell_21 : decode cX12_shell 21 = .ok (.ifCond .ne 8, 3) := by decide +kernel
theorem dX12_shell_24 : decode cX12_shell 24 = .ok (.bipush (-2), 2) := by decide +kernel
theorem dX12_shell_26 : decode cX12_shell 26 = .ok (.goto 28, 3) := by decide +kernel
theorem dX12_shell_29 : decode cX12_shell 29 = .ok (.iload_n 2, 1) := by decide +kernel
theorem dX12_shell_30 : decode cX12_shell 30 = .ok (.ifCond .ne 15, 3) := by decide +kernel
theorem dX12_shell_33 : decode cX12_shell 33 = .ok (.aload_n 0, 1) := by decide +kernel
theorem dX12_shell_34 : decode cX12_shell 34 = .ok (.getfield 13, 3) := by decide +kernel
theorem dX12_shell_37 : decode cX12_shell 37 = .ok (.bipush 56, 2) := by decide +kernel
theorem dX12_shell_39 : decode cX12_shell 39 = .ok (.iload_n 1, 1) := by decide +kernel
theorem dX12_shell_40 : decode cX12_shell 40 = .ok (.iadd, 1) := by decide +kernel
theorem dX12_shell_41 : decode cX12_shell 41 = .ok (.iaload, 1) := by decide +kernel
theorem dX12_shell_42 : decode cX12_shell 42 = .ok (.goto 12, 3) := by decide +kernel
theorem dX12_shell_45 : decode cX12_shell 45 = .ok (.aload_n 0, 1) := by decide +kernel
theorem dX12_shell_46 : decode cX12_shell 46 = .ok (.getfield 13, 3) := by decide +kernel
theorem dX12_shell_49 : decode cX12_shell 49 = .ok (.bipush 68, 2) := by decide +kernel
theorem dX12_shell_51 : decode cX12_shell 51 = .ok (.iload_n 1, 1) := by decide +kernel
theorem dX12_shell_52 : decode cX12_shell 52 = .ok (.iadd, 1) := by decide +kernel
theorem dX12_shell_53 : decode cX12_shell 53 = .ok (.iaload, 1) := by decide +kernel
theorem dX12_shell_54 : decode cX12_shell 54 = .ok (.ireturn, 1) := by decide +kernel
theorem dX12_word_0 : decode cX12_word 0 = .ok (.aload_n 0, 1) := by decide +kernel
theorem dX12_word_1 : decode cX12_word 1 = .ok (.iconst 0, 1) := by decide +kernel
theorem dX12_word_2 : decode cX12_word 2 = .ok (.putfield 1, 3) := by decide +kernel
theorem dX12_word_5 : decode cX12_word 5 = .ok (.aload_n 0, 1) := by decide +kernel
theorem dX12_word_6 : decode cX12_word 6 = .ok (.iload_n 1, 1) := by decide +kernel
theorem dX12_word_7 : decode cX12_word 7 = .ok (.i2l, 1) := by decide +kernel
theorem dX12_word_8 : decode cX12_word 8 = .ok (.invokevirtual 239, 3) := by decide +kernel
theorem dX12_word_11 : decode cX12_word 11 = .ok (.ifCond .eq 15, 3) := by decide +kernel
theorem dX12_word_14 : decode cX12_word 14 = .ok (.iload_n 2, 1) := by decide +kernel
theorem dX12_word_15 : decode cX12_word 15 = .ok (.i2l, 1) := by decide +kernel
theorem dX12_word_16 : decode cX12_word 16 = .ok (.lconst 0, 1) := by decide +kernel
theorem dX12_word_17 : decode cX12_word 17 = .ok (.ldc2_w 242, 3) := by decide +kernel
theorem dX12_word_20 : decode cX12_word 20 = .ok (.invokestatic 130, 3) := by decide +kernel
theorem dX12_word_23 : decode cX12_word 23 = .ok (.ifCond .ne 6, 3) := by decide +kernel
theorem dX12_word_26 : decode cX12_word 26 = .ok (.bipush (-2), 2) := by decide +kernel
theorem dX12_word_28 : decode cX12_word 28 = .ok (.ireturn, 1) := by decide +kernel
theorem dX12_word_29 : decode cX12_word 29 = .ok (.iload_n 2, 1) := by decide +kernel
theorem dX12_word_30 : decode cX12_word 30 = .ok (.iconst 1, 1) := by decide +kernel
theorem dX12_word_31 : decode cX12_word 31 = .ok (.if_icmp .eq 29, 3) := by decide +kernel
theorem dX12_word_34 : decode cX12_word 34 = .ok (.iload_n 2, 1) := by decide +kernel
theorem dX12_word_35 : decode cX12_word 35 = .ok (.ifCond .ne 15, 3) := by decide +kernel
theorem dX12_word_38 : decode cX12_word 38 = .ok (.aload_n 0, 1) := by decide +kernel
theorem dX12_word_39 : decode cX12_word 39 = .ok (.getfield 13, 3) := by decide +kernel
theorem dX12_word_42 : decode cX12_word 42 = .ok (.bipush 76, 2) := by decide +kernel
theorem dX12_word_44 : decode cX12_word 44 = .ok (.iload_n 1, 1) := by decide +kernel
theorem dX12_word_45 : decode cX12_word 45 = .ok (.iadd, 1) := by decide +kernel
theorem dX12_word_46 : decode cX12_word 46 = .ok (.iaload, 1) := by decide +kernel
theorem dX12_word_47 : decode cX12_word 47 = .ok (.goto 12, 3) := by decide +kernel
theorem dX12_word_50 : decode cX12_word 50 = .ok (.aload_n 0, 1) := by decide +kernel
theorem dX12_word_51 : decode cX12_word 51 = .ok (.getfield 13, 3) := by decide +kernel
theorem dX12_word_54 : decode cX12_word 54 = .ok (.bipush 92, 2) := by decide +kernel
theorem dX12_word_56 : decode cX12_word 56 = .ok (.iload_n 1, 1) := by decide +kernel
theorem dX12_word_57 : decode cX12_word 57 = .ok (.iadd, 1) := by decide +kernel
theorem dX12_word_58 : decode cX12_word 58 = .ok (.iaload, 1) := by decide +kernel
theorem dX12_word_59 : decode cX12_word 59 = .ok (.ireturn, 1) := by decide +kernel
theorem dX12_word_60 : decode cX12_word 60 = .ok (.iconst 0, 1) := by decide +kernel
theorem dX12_word_61 : decode cX12_word 61 = .ok (.istore_n 3, 1) := by decide +kernel
theorem dX12_word_62 : decode cX12_word 62 = .ok (.iconst 0, 1) := by decide +kernel
theorem dX12_word_63 : decode cX12_word 63 = .ok (.istore 4, 2) := by decide +kernel
theorem dX12_word_65 : decode cX12_word 65 = .ok (.iload 4, 2) := by decide +kernel
theorem dX12_word_67 : decode cX12_word 67 = .ok (.aload_n 0, 1) := by decide +kernel
theorem dX12_word_68 : decode cX12_word 68 = .ok (.getfield 13, 3) := by decide +kernel
theorem dX12_word_71 : decode cX12_word 71 = .ok (.iconst 2, 1) := by decide +kernel
theorem dX12_word_72 : decode cX12_word 72 = .ok (.iaload, 1) := by decide +kernel
theorem dX12_word_73 : decode cX12_word 73 = .ok (.if_icmp .ge 35, 3) := by decide +kernel
theorem dX12_word_76 : decode cX12_word 76 = .ok (.iload_n 3, 1) := by decide +kernel
theorem dX12_word_77 : decode cX12_word 77 = .ok (.aload_n 0, 1) := by decide +kernel
theorem dX12_word_78 : decode cX12_word 78 = .ok (.getfield 13, 3) := by decide +kernel
theorem dX12_word_81 : decode cX12_word 81 = .ok (.bipush 100, 2) := by decide +kernel
theorem dX12_word_83 : decode cX12_word 83 = .ok (.bipush 10, 2) := by decide +kernel
theorem dX12_word_85 : decode cX12_word 85 = .ok (.iload_n 1, 1) := by decide +kernel
theorem dX12_word_86 : decode cX12_word 86 = .ok (.imul, 1) := by decide +kernel
theorem dX12_word_87 : decode cX12_word 87 = .ok (.iadd, 1) := by decide +kernel
theorem dX12_word_88 : decode cX12_word 88 = .ok (.iload 4, 2) := by decide +kernel
theorem dX12_word_90 : decode cX12_word 90 = .ok (.iadd, 1) := by decide +kernel
theorem dX12_word_91 : decode cX12_word 91 = .ok (.iaload, 1) := by decide +kernel
theorem dX12_word_92 : decode cX12_word 92 = .ok (.ifCond .le 7, 3) := by decide +kernel
theorem dX12_word_95 : decode cX12_word 95 = .ok (.iconst 1, 1) := by decide +kernel
theorem dX12_word_96 : decode cX12_word 96 = .ok (.goto 4, 3) := by decide +kernel
theorem dX12_word_99 : decode cX12_word 99 = .ok (.iconst 0, 1) := by decide +kernel
theorem dX12_word_100 : decode cX12_word 100 = .ok (.iadd, 1) := by decide +kernel
theorem dX12_word_101 : decode cX12_word 101 = .ok (.istore_n 3, 1) := by decide +kernel
theorem dX12_word_102 : decode cX12_word 102 = .ok (.iinc 4 1, 3) := by decide +kernel
theorem dX12_word_105 : decode cX12_word 105 = .ok (.goto (-40), 3) := by decide +kernel
theorem dX12_word_108 : decode cX12_word 108 = .ok (.iload_n 3, 1) := by decide +kernel
theorem dX12_word_109 : decode cX12_word 109 = .ok (.ireturn, 1) := by decide +kernel
theorem dX12_sound_0 : decode cX12_sound 0 = .ok (.aload_n 0, 1) := by decide +kernel
theorem dX12_sound_1 : decode cX12_sound 1 = .ok (.iconst 0, 1) := by decide +kernel
theorem dX12_sound_2 : decode cX12_sound 2 = .ok (.putfield 1, 3) := by decide +kernel
theorem dX12_sound_5 : decode cX12_sound 5 = .ok (.aload_n 0, 1) := by decide +kernel
theorem dX12_sound_6 : decode cX12_sound 6 = .ok (.iload_n 1, 1) := by decide +kernel
theorem dX12_sound_7 : decode cX12_sound 7 = .ok (.i2l, 1) := by decide +kernel
theorem dX12_sound_8 : decode cX12_sound 8 = .ok (.invokevirtual 244, 3) := by decide +kernel
theorem dX12_sound_11 : decode cX12_sound 11 = .ok (.ifCond .ne 8, 3) := by decide +kernel
theorem dX12_sound_14 : decode cX12_sound 14 = .ok (.bipush (-2), 2) := by decide +kernel
theorem dX12_sound_16 : decode cX12_sound 16 = .ok (.goto 26, 3) := by decide +kernel
theorem dX12_sound_19 : decode cX12_sound 19 = .ok (.iload_n 2, 1) := by decide +kernel
theorem dX12_sound_20 : decode cX12_sound 20 = .ok (.i2l, 1) := by decide +kernel
theorem dX12_sound_21 : decode cX12_sound 21 = .ok (.lconst 0, 1) := by decide +kernel
theorem dX12_sound_22 : decode cX12_sound 22 = .ok (.ldc2_w 247, 3) := by decide +kernel
theorem dX12_sound_25 : decode cX12_sound 25 = .ok (.invokestatic 130, 3) := by decide +kernel
theorem dX12_sound_28 : decode cX12_sound 28 = .ok (.ifCond .eq 12, 3) := by decide +kernel
theorem dX12_sound_31 : decode cX12_sound 31 = .ok (.aload_n 0, 1) := by decide +kernel
theorem dX12_sound_32 : decode cX12_sound 32 = .ok (.iload_n 1, 1) := by decide +kernel
theorem dX12_sound_33 : decode cX12_sound 33 = .ok (.iload_n 2, 1) := by decide +kernel
theorem dX12_sound_34 : decode cX12_sound 34 = .ok (.invokevirtual 249, 3) := by decide +kernel
theorem dX12_sound_37 : decode cX12_sound 37 = .ok (.goto 5, 3) := by decide +kernel
theorem dX12_sound_40 : decode cX12_sound 40 = .ok (.bipush (-3), 2) := by decide +kernel
theorem dX12_sound_42 : decode cX12_sound 42 = .ok (.ireturn, 1) := by decide +kernel
theorem dX12_keeps_0 : decode cX12_keeps 0 = .ok (.iconst 0, 1) := by decide +kernel
theorem dX12_keeps_1 : decode cX12_keeps 1 = .ok (.istore_n 1, 1) := by decide +kernel
theorem dX12_keeps_2 : decode cX12_keeps 2 = .ok (.iload_n 1, 1) := by decide +kernel
theorem dX12_keeps_3 : decode cX12_keeps 3 = .ok (.bipush 116, 2) := by decide +kernel
theorem dX12_keeps_5 : decode cX12_keeps 5 = .ok (.if_icmp .ge 24, 3) := by decide +kernel
theorem dX12_keeps_8 : decode cX12_keeps 8 = .ok (.aload_n 0, 1) := by decide +kernel
theorem dX12_keeps_9 : decode cX12_keeps 9 = .ok (.getfield 36, 3) := by decide +kernel
theorem dX12_keeps_12 : decode cX12_keeps 12 = .ok (.iload_n 1, 1) := by decide +kernel
theorem dX12_keeps_13 : decode cX12_keeps 13 = .ok (.aload_n 0, 1) := by decide +kernel
theorem dX12_keeps_14 : decode cX12_keeps 14 = .ok (.getfield 13, 3) := by decide +kernel
theorem dX12_keeps_17 : decode cX12_keeps 17 = .ok (.bipush 64, 2) := by decide +kernel
theorem dX12_keeps_19 : decode cX12_keeps 19 = .ok (.iload_n 1, 1) := by decide +kernel
theorem dX12_keeps_20 : decode cX12_keeps 20 = .ok (.iadd, 1) := by decide +kernel
theorem dX12_keeps_21 : decode cX12_keeps 21 = .ok (.iaload, 1) := by decide +kernel
theorem dX12_keeps_22 : decode cX12_keeps 22 = .ok (.iastore, 1) := by decide +kernel
theorem dX12_keeps_23 : decode cX12_keeps 23 = .ok (.iinc 1 1, 3) := by decide +kernel
theorem dX12_keeps_26 : decode cX12_keeps 26 = .ok (.goto (-24), 3) := by decide +kernel
theorem dX12_keeps_29 : decode cX12_keeps 29 = .ok (.return_, 1) := by decide +kernel
theorem dX12_isAgain_0 : decode cX12_isAgain 0 = .ok (.iconst 0, 1) := by decide +kernel
theorem dX12_isAgain_1 : decode cX12_isAgain 1 = .ok (.istore_n 1, 1) := by decide +kernel
theorem dX12_isAgain_2 : decode cX12_isAgain 2 = .ok (.iload_n 1, 1) := by decide +kernel
theorem dX12_isAgain_3 : decode cX12_isAgain 3 = .ok (.bipush 116, 2) := by decide +kernel
theorem dX12_isAgain_5 : decode cX12_isAgain 5 = .ok (.if_icmp .ge 24, 3) := by decide +kernel
theorem dX12_isAgain_8 : decode cX12_isAgain 8 = .ok (.aload_n 0, 1) := by decide +kernel
theorem dX12_isAgain_9 : decode cX12_isAgain 9 = .ok (.getfield 13, 3) := by decide +kernel
theorem dX12_isAgain_12 : decode cX12_isAgain 12 = .ok (.bipush 64, 2) := by decide +kernel
theorem dX12_isAgain_14 : decode cX12_isAgain 14 = .ok (.iload_n 1, 1) := by decide +kernel
theorem dX12_isAgain_15 : decode cX12_isAgain 15 = .ok (.iadd, 1) := by decide +kernel
theorem dX12_isAgain_16 : decode cX12_isAgain 16 = .ok (.aload_n 0, 1) := by decide +kernel
theorem dX12_isAgain_17 : decode cX12_isAgain 17 = .ok (.getfield 36, 3) := by decide +kernel
theorem dX12_isAgain_20 : decode cX12_isAgain 20 = .ok (.iload_n 1, 1) := by decide +kernel
theorem dX12_isAgain_21 : decode cX12_isAgain 21 = .ok (.iaload, 1) := by decide +kernel
theorem dX12_isAgain_22 : decode cX12_isAgain 22 = .ok (.iastore, 1) := by decide +kernel
theorem dX12_isAgain_23 : decode cX12_isAgain 23 = .ok (.iinc 1 1, 3) := by decide +kernel
theorem dX12_isAgain_26 : decode cX12_isAgain 26 = .ok (.goto (-24), 3) := by decide +kernel
theorem dX12_isAgain_29 : decode cX12_isAgain 29 = .ok (.return_, 1) := by decide +kernel
theorem dX12_notes_0 : decode cX12_notes 0 = .ok (.aload_n 0, 1) := by decide +kernel
theorem dX12_notes_1 : decode cX12_notes 1 = .ok (.getfield 13, 3) := by decide +kernel
theorem dX12_notes_4 : decode cX12_notes 4 = .ok (.sipush 180, 3) := by decide +kernel
theorem dX12_notes_7 : decode cX12_notes 7 = .ok (.iaload, 1) := by decide +kernel
theorem dX12_notes_8 : decode cX12_notes 8 = .ok (.bipush 10, 2) := by decide +kernel
theorem dX12_notes_10 : decode cX12_notes 10 = .ok (.if_icmp .ne 50, 3) := by decide +kernel
theorem dX12_notes_13 : decode cX12_notes 13 = .ok (.iconst 0, 1) := by decide +kernel
theorem dX12_notes_14 : decode cX12_notes 14 = .ok (.istore_n 1, 1) := by decide +kernel
theorem dX12_notes_15 : decode cX12_notes 15 = .ok (.iload_n 1, 1) := by decide +kernel
theorem dX12_notes_16 : decode cX12_notes 16 = .ok (.sipush 1044, 3) := by decide +kernel
theorem dX12_notes_19 : decode cX12_notes 19 = .ok (.if_icmp .ge 29, 3) := by decide +kernel
theorem dX12_notes_22 : decode cX12_notes 22 = .ok (.aload_n 0, 1) := by decide +kernel
theorem dX12_notes_23 : decode cX12_notes 23 = .ok (.getfield 13, 3) := by decide +kernel
theorem dX12_notes_26 : decode cX12_notes 26 = .ok (.sipush 181, 3) := by decide +kernel
theorem dX12_notes_29 : decode cX12_notes 29 = .ok (.iload_n 1, 1) := by decide +kernel
theorem dX12_notes_30 : decode cX12_notes 30 = .ok (.iadd, 1) := by decide +kernel
theorem dX12_notes_31 : decode cX12_notes 31 = .ok (.aload_n 0, 1) := by decide +kernel
theorem dX12_notes_32 : decode cX12_notes 32 = .ok (.getfield 13, 3) := by decide +kernel
theorem dX12_notes_35 : decode cX12_notes 35 = .ok (.sipush 297, 3) := by decide +kernel
theorem dX12_notes_38 : decode cX12_notes 38 = .ok (.iload_n 1, 1) := by decide +kernel
theorem dX12_notes_39 : decode cX12_notes 39 = .ok (.iadd, 1) := by decide +kernel
theorem dX12_notes_40 : decode cX12_notes 40 = .ok (.iaload, 1) := by decide +kernel
theorem dX12_notes_41 : decode cX12_notes 41 = .ok (.iastore, 1) := by decide +kernel
theorem dX12_notes_42 : decode cX12_notes 42 = .ok (.iinc 1 1, 3) := by decide +kernel
theorem dX12_notes_45 : decode cX12_notes 45 = .ok (.goto (-30), 3) := by decide +kernel
theorem dX12_notes_48 : decode cX12_notes 48 = .ok (.aload_n 0, 1) := by decide +kernel
theorem dX12_notes_49 : decode cX12_notes 49 = .ok (.getfield 13, 3) := by decide +kernel
theorem dX12_notes_52 : decode cX12_notes 52 = .ok (.sipush 180, 3) := by decide +kernel
theorem dX12_notes_55 : decode cX12_notes 55 = .ok (.dup2, 1) := by decide +kernel
theorem dX12_notes_56 : decode cX12_notes 56 = .ok (.iaload, 1) := by decide +kernel
theorem dX12_notes_57 : decode cX12_notes 57 = .ok (.iconst 1, 1) := by decide +kernel
theorem dX12_notes_58 : decode cX12_notes 58 = .ok (.isub, 1) := by decide +kernel
theorem dX12_notes_59 : decode cX12_notes 59 = .ok (.iastore, 1) := by decide +kernel
theorem dX12_notes_60 : decode cX12_notes 60 = .ok (.iconst 0, 1) := by decide +kernel
theorem dX12_notes_61 : decode cX12_notes 61 = .ok (.istore_n 1, 1) := by decide +kernel
theorem dX12_notes_62 : decode cX12_notes 62 = .ok (.iload_n 1, 1) := by decide +kernel
theorem dX12_notes_63 : decode cX12_notes 63 = .ok (.bipush 116, 2) := by decide +kernel
theorem dX12_notes_65 : decode cX12_notes 65 = .ok (.if_icmp .ge 37, 3) := by decide +kernel
theorem dX12_notes_68 : decode cX12_notes 68 = .ok (.aload_n 0, 1) := by decide +kernel
theorem dX12_notes_69 : decode cX12_notes 69 = .ok (.getfield 13, 3) := by decide +kernel
theorem dX12_notes_72 : decode cX12_notes 72 = .ok (.sipush 181, 3) := by decide +kernel
theorem dX12_notes_75 : decode cX12_notes 75 = .ok (.bipush 116, 2) := by decide +kernel
theorem dX12_notes_77 : decode cX12_notes 77 = .ok (.aload_n 0, 1) := by decide +kernel
theorem dX12_notes_78 : decode cX12_notes 78 = .ok (.getfield 13, 3) := by decide +kernel
theorem dX12_notes_81 : decode cX12_notes 81 = .ok (.sipush 180, 3) := by decide +kernel
theorem dX12_notes_84 : decode cX12_notes 84 = .ok (.iaload, 1) := by decide +kernel
theorem dX12_notes_85 : decode cX12_notes 85 = .ok (.imul, 1) := by decide +kernel
theorem dX12_notes_86 : decode cX12_notes 86 = .ok (.iadd, 1) := by decide +kernel
theorem dX12_notes_87 : decode cX12_notes 87 = .ok (.iload_n 1, 1) := by decide +kernel
theorem dX12_notes_88 : decode cX12_notes 88 = .ok (.iadd, 1) := by decide +kernel
theorem dX12_notes_89 : decode cX12_notes 89 = .ok (.aload_n 0, 1) := by decide +kernel
theorem dX12_notes_90 : decode cX12_notes 90 = .ok (.getfield 36, 3) := by decide +kernel
theorem dX12_notes_93 : decode cX12_notes 93 = .ok (.iload_n 1, 1) := by decide +kernel
theorem dX12_notes_94 : decode cX12_notes 94 = .ok (.iaload, 1) := by decide +kernel
theorem dX12_notes_95 : decode cX12_notes 95 = .ok (.iastore, 1) := by decide +kernel
theorem dX12_notes_96 : decode cX12_notes 96 = .ok (.iinc 1 1, 3) := by decide +kernel
theorem dX12_notes_99 : decode cX12_notes 99 = .ok (.goto (-37), 3) := by decide +kernel
theorem dX12_notes_102 : decode cX12_notes 102 = .ok (.aload_n 0, 1) := by decide +kernel
theorem dX12_notes_103 : decode cX12_notes 103 = .ok (.getfield 13, 3) := by decide +kernel
theorem dX12_notes_106 : decode cX12_notes 106 = .ok (.sipush 180, 3) := by decide +kernel
theorem dX12_notes_109 : decode cX12_notes 109 = .ok (.dup2, 1) := by decide +kernel
theorem dX12_notes_110 : decode cX12_notes 110 = .ok (.iaload, 1) := by decide +kernel
theorem dX12_notes_111 : decode cX12_notes 111 = .ok (.iconst 1, 1) := by decide +kernel
theorem dX12_notes_112 : decode cX12_notes 112 = .ok (.iadd, 1) := by decide +kernel
theorem dX12_notes_113 : decode cX12_notes 113 = .ok (.iastore, 1) := by decide +kernel
theorem dX12_notes_114 : decode cX12_notes 114 = .ok (.return_, 1) := by decide +kernel
theorem dX12_goesOut_0 : decode cX12_goesOut 0 = .ok (.iconst 0, 1) := by decide +kernel
theorem dX12_goesOut_1 : decode cX12_goesOut 1 = .ok (.istore_n 2, 1) := by decide +kernel
theorem dX12_goesOut_2 : decode cX12_goesOut 2 = .ok (.iload_n 2, 1) := by decide +kernel
theorem dX12_goesOut_3 : decode cX12_goesOut 3 = .ok (.aload_n 0, 1) := by decide +kernel
theorem dX12_goesOut_4 : decode cX12_goesOut 4 = .ok (.getfield 13, 3) := by decide +kernel
theorem dX12_goesOut_7 : decode cX12_goesOut 7 = .ok (.iconst 2, 1) := by decide +kernel
theorem dX12_goesOut_8 : decode cX12_goesOut 8 = .ok (.iaload, 1) := by decide +kernel
theorem dX12_goesOut_9 : decode cX12_goesOut 9 = .ok (.if_icmp .ge 105, 3) := by decide +kernel
theorem dX12_goesOut_12 : decode cX12_goesOut 12 = .ok (.aload_n 0, 1) := by decide +kernel
theorem dX12_goesOut_13 : decode cX12_goesOut 13 = .ok (.getfield 13, 3) := by decide +kernel
theorem dX12_goesOut_16 : decode cX12_goesOut 16 = .ok (.bipush 84, 2) := by decide +kernel
theorem dX12_goesOut_18 : decode cX12_goesOut 18 = .ok (.iload_n 1, 1) := by decide +kernel
theorem dX12_goesOut_19 : decode cX12_goesOut 19 = .ok (.iadd, 1) := by decide +kernel
theorem dX12_goesOut_20 : decode cX12_goesOut 20 = .ok (.iaload, 1) := by decide +kernel
theorem dX12_goesOut_21 : decode cX12_goesOut 21 = .ok (.aload_n 0, 1) := by decide +kernel
theorem dX12_goesOut_22 : decode cX12_goesOut 22 = .ok (.getfield 252, 3) := by decide +kernel
theorem dX12_goesOut_25 : decode cX12_goesOut 25 = .ok (.ior, 1) := by decide +kernel
theorem dX12_goesOut_26 : decode cX12_goesOut 26 = .ok (.i2l, 1) := by decide +kernel
theorem dX12_goesOut_27 : decode cX12_goesOut 27 = .ok (.iload_n 2, 1) := by decide +kernel
theorem dX12_goesOut_28 : decode cX12_goesOut 28 = .ok (.invokestatic 213, 3) := by decide +kernel
theorem dX12_goesOut_31 : decode cX12_goesOut 31 = .ok (.ifCond .ne 77, 3) := by decide +kernel
theorem dX12_goesOut_34 : decode cX12_goesOut 34 = .ok (.aload_n 0, 1) := by decide +kernel
theorem dX12_goesOut_35 : decode cX12_goesOut 35 = .ok (.getfield 13, 3) := by decide +kernel
theorem dX12_goesOut_38 : decode cX12_goesOut 38 = .ok (.bipush 76, 2) := by decide +kernel
theorem dX12_goesOut_40 : decode cX12_goesOut 40 = .ok (.iload_n 1, 1) := by decide +kernel
theorem dX12_goesOut_41 : decode cX12_goesOut 41 = .ok (.iadd, 1) := by decide +kernel
theorem dX12_goesOut_42 : decode cX12_goesOut 42 = .ok (.iaload, 1) := by decide +kernel
theorem dX12_goesOut_43 : decode cX12_goesOut 43 = .ok (.i2l, 1) := by decide +kernel
theorem dX12_goesOut_44 : decode cX12_goesOut 44 = .ok (.aload_n 0, 1) := by decide +kernel
theorem dX12_goesOut_45 : decode cX12_goesOut 45 = .ok (.getfield 13, 3) := by decide +kernel
theorem dX12_goesOut_48 : decode cX12_goesOut 48 = .ok (.bipush 14, 2) := by decide +kernel
theorem dX12_goesOut_50 : decode cX12_goesOut 50 = .ok (.iload_n 2, 1) := by decide +kernel
theorem dX12_goesOut_51 : decode cX12_goesOut 51 = .ok (.iadd, 1) := by decide +kernel
theorem dX12_goesOut_52 : decode cX12_goesOut 52 = .ok (.iaload, 1) := by decide +kernel
theorem dX12_goesOut_53 : decode cX12_goesOut 53 = .ok (.invokestatic 213, 3) := by decide +kernel
theorem dX12_goesOut_56 : decode cX12_goesOut 56 = .ok (.ifCond .eq 52, 3) := by decide +kernel
theorem dX12_goesOut_59 : decode cX12_goesOut 59 = .ok (.aload_n 0, 1) := by decide +kernel
theorem dX12_goesOut_60 : decode cX12_goesOut 60 = .ok (.iload_n 2, 1) := by decide +kernel
theorem dX12_goesOut_61 : decode cX12_goesOut 61 = .ok (.invokevirtual 221, 3) := by decide +kernel
theorem dX12_goesOut_64 : decode cX12_goesOut 64 = .ok (.ifCond .ne 6, 3) := by decide +kernel
theorem dX12_goesOut_67 : decode cX12_goesOut 67 = .ok (.goto 41, 3) := by decide +kernel
theorem dX12_goesOut_70 : decode cX12_goesOut 70 = .ok (.aload_n 0, 1) := by decide +kernel
theorem dX12_goesOut_71 : decode cX12_goesOut 71 = .ok (.getfield 13, 3) := by decide +kernel
theorem dX12_goesOut_74 : decode cX12_goesOut 74 = .ok (.bipush 84, 2) := by decide +kernel
theorem dX12_goesOut_76 : decode cX12_goesOut 76 = .ok (.iload_n 1, 1) := by decide +kernel
theorem dX12_goesOut_77 : decode cX12_goesOut 77 = .ok (.iadd, 1) := by decide +kernel
theorem dX12_goesOut_78 : decode cX12_goesOut 78 = .ok (.dup2, 1) := by decide +kernel
theorem dX12_goesOut_79 : decode cX12_goesOut 79 = .ok (.iaload, 1) := by decide +kernel
theorem dX12_goesOut_80 : decode cX12_goesOut 80 = .ok (.iconst 1, 1) := by decide +kernel
theorem dX12_goesOut_81 : decode cX12_goesOut 81 = .ok (.iload_n 2, 1) := by decide +kernel
theorem dX12_goesOut_82 : decode cX12_goesOut 82 = .ok (.ishl, 1) := by decide +kernel
theorem dX12_goesOut_83 : decode cX12_goesOut 83 = .ok (.ior, 1) := by decide +kernel
theorem dX12_goesOut_84 : decode cX12_goesOut 84 = .ok (.iastore, 1) := by decide +kernel
theorem dX12_goesOut_85 : decode cX12_goesOut 85 = .ok (.aload_n 0, 1) := by decide +kernel
theorem dX12_goesOut_86 : decode cX12_goesOut 86 = .ok (.getfield 13, 3) := by decide +kernel
theorem dX12_goesOut_89 : decode cX12_goesOut 89 = .ok (.bipush 100, 2) := by decide +kernel
theorem dX12_goesOut_91 : decode cX12_goesOut 91 = .ok (.bipush 10, 2) := by decide +kernel
theorem dX12_goesOut_93 : decode cX12_goesOut 93 = .ok (.iload_n 1, 1) := by decide +kernel
theorem dX12_goesOut_94 : decode cX12_goesOut 94 = .ok (.imul, 1) := by decide +kernel
theorem dX12_goesOut_95 : decode cX12_goesOut 95 = .ok (.iadd, 1) := by decide +kernel
theorem dX12_goesOut_96 : decode cX12_goesOut 96 = .ok (.iload_n 2, 1) := by decide +kernel
theorem dX12_goesOut_97 : decode cX12_goesOut 97 = .ok (.iadd, 1) := by decide +kernel
theorem dX12_goesOut_98 : decode cX12_goesOut 98 = .ok (.aload_n 0, 1) := by decide +kernel
theorem dX12_goesOut_99 : decode cX12_goesOut 99 = .ok (.getfield 13, 3) := by decide +kernel
theorem dX12_goesOut_102 : decode cX12_goesOut 102 = .ok (.bipush 34, 2) := by decide +kernel
theorem dX12_goesOut_104 : decode cX12_goesOut 104 = .ok (.iload_n 2, 1) := by decide +kernel
theorem dX12_goesOut_105 : decode cX12_goesOut 105 = .ok (.iadd, 1) := by decide +kernel
theorem dX12_goesOut_106 : decode cX12_goesOut 106 = .ok (.iaload, 1) := by decide +kernel
theorem dX12_goesOut_107 : decode cX12_goesOut 107 = .ok (.iastore, 1) := by decide +kernel
theorem dX12_goesOut_108 : decode cX12_goesOut 108 = .ok (.iinc 2 1, 3) := by decide +kernel
theorem dX12_goesOut_111 : decode cX12_goesOut 111 = .ok (.goto (-109), 3) := by decide +kernel
theorem dX12_goesOut_114 : decode cX12_goesOut 114 = .ok (.return_, 1) := by decide +kernel
theorem dX12_comesAll_0 : decode cX12_comesAll 0 = .ok (.iconst 0, 1) := by decide +kernel
theorem dX12_comesAll_1 : decode cX12_comesAll 1 = .ok (.istore_n 2, 1) := by decide +kernel
theorem dX12_comesAll_2 : decode cX12_comesAll 2 = .ok (.iload_n 2, 1) := by decide +kernel
theorem dX12_comesAll_3 : decode cX12_comesAll 3 = .ok (.aload_n 0, 1) := by decide +kernel
theorem dX12_comesAll_4 : decode cX12_comesAll 4 = .ok (.getfield 13, 3) := by decide +kernel
theorem dX12_comesAll_7 : decode cX12_comesAll 7 = .ok (.iconst 2, 1) := by decide +kernel
theorem dX12_comesAll_8 : decode cX12_comesAll 8 = .ok (.iaload, 1) := by decide +kernel
theorem dX12_comesAll_9 : decode cX12_comesAll 9 = .ok (.if_icmp .ge 73, 3) := by decide +kernel
theorem dX12_comesAll_12 : decode cX12_comesAll 12 = .ok (.bipush 100, 2) := by decide +kernel
theorem dX12_comesAll_14 : decode cX12_comesAll 14 = .ok (.bipush 10, 2) := by decide +kernel
theorem dX12_comesAll_16 : decode cX12_comesAll 16 = .ok (.iload_n 1, 1) := by decide +kernel
theorem dX12_comesAll_17 : decode cX12_comesAll 17 = .ok (.imul, 1) := by decide +kernel
theorem dX12_comesAll_18 : decode cX12_comesAll 18 = .ok (.iadd, 1) := by decide +kernel
theorem dX12_comesAll_19 : decode cX12_comesAll 19 = .ok (.iload_n 2, 1) := by decide +kernel
theorem dX12_comesAll_20 : decode cX12_comesAll 20 = .ok (.iadd, 1) := by decide +kernel
theorem dX12_comesAll_21 : decode cX12_comesAll 21 = .ok (.istore_n 3, 1) := by decide +kernel
theorem dX12_comesAll_22 : decode cX12_comesAll 22 = .ok (.aload_n 0, 1) := by decide +kernel
theorem dX12_comesAll_23 : decode cX12_comesAll 23 = .ok (.getfield 13, 3) := by decide +kernel
theorem dX12_comesAll_26 : decode cX12_comesAll 26 = .ok (.iload_n 3, 1) := by decide +kernel
theorem dX12_comesAll_27 : decode cX12_comesAll 27 = .ok (.iaload, 1) := by decide +kernel
theorem dX12_comesAll_28 : decode cX12_comesAll 28 = .ok (.ifCond .ne 6, 3) := by decide +kernel
theorem dX12_comesAll_31 : decode cX12_comesAll 31 = .ok (.goto 45, 3) := by decide +kernel
theorem dX12_comesAll_34 : decode cX12_comesAll 34 = .ok (.aload_n 0, 1) := by decide +kernel
theorem dX12_comesAll_35 : decode cX12_comesAll 35 = .ok (.getfield 13, 3) := by decide +kernel
theorem dX12_comesAll_38 : decode cX12_comesAll 38 = .ok (.iload_n 3, 1) := by decide +kernel
theorem dX12_comesAll_39 : decode cX12_comesAll 39 = .ok (.dup2, 1) := by decide +kernel
theorem dX12_comesAll_40 : decode cX12_comesAll 40 = .ok (.iaload, 1) := by decide +kernel
theorem dX12_comesAll_41 : decode cX12_comesAll 41 = .ok (.iconst 1, 1) := by decide +kernel
theorem dX12_comesAll_42 : decode cX12_comesAll 42 = .ok (.isub, 1) := by decide +kernel
theorem dX12_comesAll_43 : decode cX12_comesAll 43 = .ok (.iastore, 1) := by decide +kernel
theorem dX12_comesAll_44 : decode cX12_comesAll 44 = .ok (.aload_n 0, 1) := by decide +kernel
theorem dX12_comesAll_45 : decode cX12_comesAll 45 = .ok (.getfield 13, 3) := by decide +kernel
theorem dX12_comesAll_48 : decode cX12_comesAll 48 = .ok (.iload_n 3, 1) := by decide +kernel
theorem dX12_comesAll_49 : decode cX12_comesAll 49 = .ok (.iaload, 1) := by decide +kernel
theorem dX12_comesAll_50 : decode cX12_comesAll 50 = .ok (.ifCond .ne 26, 3) := by decide +kernel
theorem dX12_comesAll_53 : decode cX12_comesAll 53 = .ok (.aload_n 0, 1) := by decide +kernel
theorem dX12_comesAll_54 : decode cX12_comesAll 54 = .ok (.getfield 13, 3) := by decide +kernel
theorem dX12_comesAll_57 : decode cX12_comesAll 57 = .ok (.bipush 76, 2) := by decide +kernel
theorem dX12_comesAll_59 : decode cX12_comesAll 59 = .ok (.iload_n 1, 1) := by decide +kernel
theorem dX12_comesAll_60 : decode cX12_comesAll 60 = .ok (.iadd, 1) := by decide +kernel
theorem dX12_comesAll_61 : decode cX12_comesAll 61 = .ok (.dup2, 1) := by decide +kernel
theorem dX12_comesAll_62 : decode cX12_comesAll 62 = .ok (.iaload, 1) := by decide +kernel
theorem dX12_comesAll_63 : decode cX12_comesAll 63 = .ok (.iconst 1, 1) := by decide +kernel
theorem dX12_comesAll_64 : decode cX12_comesAll 64 = .ok (.aload_n 0, 1) := by decide +kernel
theorem dX12_comesAll_65 : decode cX12_comesAll 65 = .ok (.getfield 13, 3) := by decide +kernel
theorem dX12_comesAll_68 : decode cX12_comesAll 68 = .ok (.bipush 24, 2) := by decide +kernel
theorem dX12_comesAll_70 : decode cX12_comesAll 70 = .ok (.iload_n 2, 1) := by decide +kernel
theorem dX12_comesAll_71 : decode cX12_comesAll 71 = .ok (.iadd, 1) := by decide +kernel
theorem dX12_comesAll_72 : decode cX12_comesAll 72 = .ok (.iaload, 1) := by decide +kernel
theorem dX12_comesAll_73 : decode cX12_comesAll 73 = .ok (.ishl, 1) := by decide +kernel
theorem dX12_comesAll_74 : decode cX12_comesAll 74 = .ok (.ior, 1) := by decide +kernel
theorem dX12_comesAll_75 : decode cX12_comesAll 75 = .ok (.iastore, 1) := by decide +kernel
theorem dX12_comesAll_76 : decode cX12_comesAll 76 = .ok (.iinc 2 1, 3) := by decide +kernel
theorem dX12_comesAll_79 : decode cX12_comesAll 79 = .ok (.goto (-77), 3) := by decide +kernel
theorem dX12_comesAll_82 : decode cX12_comesAll 82 = .ok (.return_, 1) := by decide +kernel
theorem dX12_hearsAll_0 : decode cX12_hearsAll 0 = .ok (.aload_n 0, 1) := by decide +kernel
theorem dX12_hearsAll_1 : decode cX12_hearsAll 1 = .ok (.iload_n 1, 1) := by decide +kernel
theorem dX12_hearsAll_2 : decode cX12_hearsAll 2 = .ok (.invokevirtual 233, 3) := by decide +kernel
theorem dX12_hearsAll_5 : decode cX12_hearsAll 5 = .ok (.ifCond .ne 5, 3) := by decide +kernel
theorem dX12_hearsAll_8 : decode cX12_hearsAll 8 = .ok (.iconst 0, 1) := by decide +kernel
theorem dX12_hearsAll_9 : decode cX12_hearsAll 9 = .ok (.ireturn, 1) := by decide +kernel
theorem dX12_hearsAll_10 : decode cX12_hearsAll 10 = .ok (.iconst 0, 1) := by decide +kernel
theorem dX12_hearsAll_11 : decode cX12_hearsAll 11 = .ok (.istore_n 2, 1) := by decide +kernel
theorem dX12_hearsAll_12 : decode cX12_hearsAll 12 = .ok (.aload_n 0, 1) := by decide +kernel
theorem dX12_hearsAll_13 : decode cX12_hearsAll 13 = .ok (.iload_n 1, 1) := by decide +kernel
theorem dX12_hearsAll_14 : decode cX12_hearsAll 14 = .ok (.invokevirtual 255, 3) := by decide +kernel
theorem dX12_hearsAll_17 : decode cX12_hearsAll 17 = .ok (.istore_n 3, 1) := by decide +kernel
theorem dX12_hearsAll_18 : decode cX12_hearsAll 18 = .ok (.iconst 0, 1) := by decide +kernel
theorem dX12_hearsAll_19 : decode cX12_hearsAll 19 = .ok (.istore 4, 2) := by decide +kernel
theorem dX12_hearsAll_21 : decode cX12_hearsAll 21 = .ok (.iload 4, 2) := by decide +kernel
theorem dX12_hearsAll_23 : decode cX12_hearsAll 23 = .ok (.aload_n 0, 1) := by decide +kernel
theorem dX12_hearsAll_24 : decode cX12_hearsAll 24 = .ok (.getfield 13, 3) := by decide +kernel
theorem dX12_hearsAll_27 : decode cX12_hearsAll 27 = .ok (.bipush 67, 2) := by decide +kernel
theorem dX12_hearsAll_29 : decode cX12_hearsAll 29 = .ok (.iaload, 1) := by decide +kernel
theorem dX12_hearsAll_30 : decode cX12_hearsAll 30 = .ok (.if_icmp .ge 64, 3) := by decide +kernel
theorem dX12_hearsAll_33 : decode cX12_hearsAll 33 = .ok (.aload_n 0, 1) := by decide +kernel
theorem dX12_hearsAll_34 : decode cX12_hearsAll 34 = .ok (.getfield 13, 3) := by decide +kernel
theorem dX12_hearsAll_37 : decode cX12_hearsAll 37 = .ok (.bipush 76, 2) := by decide +kernel
theorem dX12_hearsAll_39 : decode cX12_hearsAll 39 = .ok (.iload 4, 2) := by decide +kernel
theorem dX12_hearsAll_41 : decode cX12_hearsAll 41 = .ok (.iadd, 1) := by decide +kernel
theorem dX12_hearsAll_42 : decode cX12_hearsAll 42 = .ok (.iaload, 1) := by decide +kernel
theorem dX12_hearsAll_43 : decode cX12_hearsAll 43 = .ok (.iload_n 3, 1) := by decide +kernel
theorem dX12_hearsAll_44 : decode cX12_hearsAll 44 = .ok (.iand, 1) := by decide +kernel
theorem dX12_hearsAll_45 : decode cX12_hearsAll 45 = .ok (.ifCond .eq 43, 3) := by decide +kernel
theorem dX12_hearsAll_48 : decode cX12_hearsAll 48 = .ok (.aload_n 0, 1) := by decide +kernel
theorem dX12_hearsAll_49 : decode cX12_hearsAll 49 = .ok (.getfield 13, 3) := by decide +kernel
theorem dX12_hearsAll_52 : decode cX12_hearsAll 52 = .ok (.bipush 92, 2) := by decide +kernel
theorem dX12_hearsAll_54 : decode cX12_hearsAll 54 = .ok (.iload 4, 2) := by decide +kernel
theorem dX12_hearsAll_56 : decode cX12_hearsAll 56 = .ok (.iadd, 1) := by decide +kernel
theorem dX12_hearsAll_57 : decode cX12_hearsAll 57 = .ok (.iaload, 1) := by decide +kernel
theorem dX12_hearsAll_58 : decode cX12_hearsAll 58 = .ok (.i2l, 1) := by decide +kernel
theorem dX12_hearsAll_59 : decode cX12_hearsAll 59 = .ok (.iload_n 1, 1) := by decide +kernel
theorem dX12_hearsAll_60 : decode cX12_hearsAll 60 = .ok (.invokestatic 213, 3) := by decide +kernel
theorem dX12_hearsAll_63 : decode cX12_hearsAll 63 = .ok (.ifCond .eq 6, 3) := by decide +kernel
theorem dX12_hearsAll_66 : decode cX12_hearsAll 66 = .ok (.goto 22, 3) := by decide +kernel
theorem dX12_hearsAll_69 : decode cX12_hearsAll 69 = .ok (.aload_n 0, 1) := by decide +kernel
theorem dX12_hearsAll_70 : decode cX12_hearsAll 70 = .ok (.getfield 13, 3) := by decide +kernel
theorem dX12_hearsAll_73 : decode cX12_hearsAll 73 = .ok (.bipush 92, 2) := by decide +kernel
theorem dX12_hearsAll_75 : decode cX12_hearsAll 75 = .ok (.iload 4, 2) := by decide +kernel
theorem dX12_hearsAll_77 : decode cX12_hearsAll 77 = .ok (.iadd, 1) := by decide +kernel
theorem dX12_hearsAll_78 : decode cX12_hearsAll 78 = .ok (.dup2, 1) := by decide +kernel
theorem dX12_hearsAll_79 : decode cX12_hearsAll 79 = .ok (.iaload, 1) := by decide +kernel
theorem dX12_hearsAll_80 : decode cX12_hearsAll 80 = .ok (.iconst 1, 1) := by decide +kernel
theorem dX12_hearsAll_81 : decode cX12_hearsAll 81 = .ok (.iload_n 1, 1) := by decide +kernel
theorem dX12_hearsAll_82 : decode cX12_hearsAll 82 = .ok (.ishl, 1) := by decide +kernel
theorem dX12_hearsAll_83 : decode cX12_hearsAll 83 = .ok (.ior, 1) := by decide +kernel
theorem dX12_hearsAll_84 : decode cX12_hearsAll 84 = .ok (.iastore, 1) := by decide +kernel
theorem dX12_hearsAll_85 : decode cX12_hearsAll 85 = .ok (.iinc 2 1, 3) := by decide +kernel
theorem dX12_hearsAll_88 : decode cX12_hearsAll 88 = .ok (.iinc 4 1, 3) := by decide +kernel
theorem dX12_hearsAll_91 : decode cX12_hearsAll 91 = .ok (.goto (-70), 3) := by decide +kernel
theorem dX12_hearsAll_94 : decode cX12_hearsAll 94 = .ok (.iload_n 2, 1) := by decide +kernel
theorem dX12_hearsAll_95 : decode cX12_hearsAll 95 = .ok (.ireturn, 1) := by decide +kernel
theorem dX12_goesHour_0 : decode cX12_goesHour 0 = .ok (.iconst 0, 1) := by decide +kernel
theorem dX12_goesHour_1 : decode cX12_goesHour 1 = .ok (.istore_n 1, 1) := by decide +kernel
theorem dX12_goesHour_2 : decode cX12_goesHour 2 = .ok (.iload_n 1, 1) := by decide +kernel
theorem dX12_goesHour_3 : decode cX12_goesHour 3 = .ok (.aload_n 0, 1) := by decide +kernel
theorem dX12_goesHour_4 : decode cX12_goesHour 4 = .ok (.getfield 13, 3) := by decide +kernel
theorem dX12_goesHour_7 : decode cX12_goesHour 7 = .ok (.bipush 67, 2) := by decide +kernel
theorem dX12_goesHour_9 : decode cX12_goesHour 9 = .ok (.iaload, 1) := by decide +kernel
theorem dX12_goesHour_10 : decode cX12_goesHour 10 = .ok (.if_icmp .ge 14, 3) := by decide +kernel
theorem dX12_goesHour_13 : decode cX12_goesHour 13 = .ok (.aload_n 0, 1) := by decide +kernel
theorem dX12_goesHour_14 : decode cX12_goesHour 14 = .ok (.iload_n 1, 1) := by decide +kernel
theorem dX12_goesHour_15 : decode cX12_goesHour 15 = .ok (.invokevirtual 258, 3) := by decide +kernel
theorem dX12_goesHour_18 : decode cX12_goesHour 18 = .ok (.iinc 1 1, 3) := by decide +kernel
theorem dX12_goesHour_21 : decode cX12_goesHour 21 = .ok (.goto (-19), 3) := by decide +kernel
theorem dX12_goesHour_24 : decode cX12_goesHour 24 = .ok (.aload_n 0, 1) := by decide +kernel
theorem dX12_goesHour_25 : decode cX12_goesHour 25 = .ok (.getfield 13, 3) := by decide +kernel
theorem dX12_goesHour_28 : decode cX12_goesHour 28 = .ok (.bipush 64, 2) := by decide +kernel
theorem dX12_goesHour_30 : decode cX12_goesHour 30 = .ok (.dup2, 1) := by decide +kernel
theorem dX12_goesHour_31 : decode cX12_goesHour 31 = .ok (.iaload, 1) := by decide +kernel
theorem dX12_goesHour_32 : decode cX12_goesHour 32 = .ok (.iconst 1, 1) := by decide +kernel
theorem dX12_goesHour_33 : decode cX12_goesHour 33 = .ok (.iadd, 1) := by decide +kernel
theorem dX12_goesHour_34 : decode cX12_goesHour 34 = .ok (.iastore, 1) := by decide +kernel
theorem dX12_goesHour_35 : decode cX12_goesHour 35 = .ok (.aload_n 0, 1) := by decide +kernel
theorem dX12_goesHour_36 : decode cX12_goesHour 36 = .ok (.getfield 13, 3) := by decide +kernel
theorem dX12_goesHour_39 : decode cX12_goesHour 39 = .ok (.bipush 65, 2) := by decide +kernel
theorem dX12_goesHour_41 : decode cX12_goesHour 41 = .ok (.iaload, 1) := by decide +kernel
theorem dX12_goesHour_42 : decode cX12_goesHour 42 = .ok (.ifCond .le 14, 3) := by decide +kernel
theorem dX12_goesHour_45 : decode cX12_goesHour 45 = .ok (.aload_n 0, 1) := by decide +kernel
theorem dX12_goesHour_46 : decode cX12_goesHour 46 = .ok (.getfield 13, 3) := by decide +kernel
theorem dX12_goesHour_49 : decode cX12_goesHour 49 = .ok (.bipush 65, 2) := by decide +kernel
theorem dX12_goesHour_51 : decode cX12_goesHour 51 = .ok (.dup2, 1) := by decide +kernel
theorem dX12_goesHour_52 : decode cX12_goesHour 52 = .ok (.iaload, 1) := by decide +kernel
theorem dX12_goesHour_53 : decode cX12_goesHour 53 = .ok (.iconst 1, 1) := by decide +kernel
theorem dX12_goesHour_54 : decode cX12_goesHour 54 = .ok (.isub, 1) := by decide +kernel
theorem dX12_goesHour_55 : decode cX12_goesHour 55 = .ok (.iastore, 1) := by decide +kernel
theorem dX12_goesHour_56 : decode cX12_goesHour 56 = .ok (.iconst 0, 1) := by decide +kernel
theorem dX12_goesHour_57 : decode cX12_goesHour 57 = .ok (.istore_n 1, 1) := by decide +kernel
theorem dX12_goesHour_58 : decode cX12_goesHour 58 = .ok (.iload_n 1, 1) := by decide +kernel
theorem dX12_goesHour_59 : decode cX12_goesHour 59 = .ok (.aload_n 0, 1) := by decide +kernel
theorem dX12_goesHour_60 : decode cX12_goesHour 60 = .ok (.getfield 13, 3) := by decide +kernel
theorem dX12_goesHour_63 : decode cX12_goesHour 63 = .ok (.bipush 67, 2) := by decide +kernel
theorem dX12_goesHour_65 : decode cX12_goesHour 65 = .ok (.iaload, 1) := by decide +kernel
theorem dX12_goesHour_66 : decode cX12_goesHour 66 = .ok (.if_icmp .ge 14, 3) := by decide +kernel
theorem dX12_goesHour_69 : decode cX12_goesHour 69 = .ok (.aload_n 0, 1) := by decide +kernel
theorem dX12_goesHour_70 : decode cX12_goesHour 70 = .ok (.iload_n 1, 1) := by decide +kernel
theorem dX12_goesHour_71 : decode cX12_goesHour 71 = .ok (.invokevirtual 261, 3) := by decide +kernel
theorem dX12_goesHour_74 : decode cX12_goesHour 74 = .ok (.iinc 1 1, 3) := by decide +kernel
theorem dX12_goesHour_77 : decode cX12_goesHour 77 = .ok (.goto (-19), 3) := by decide +kernel
theorem dX12_goesHour_80 : decode cX12_goesHour 80 = .ok (.iconst 0, 1) := by decide +kernel
theorem dX12_goesHour_81 : decode cX12_goesHour 81 = .ok (.istore_n 1, 1) := by decide +kernel
theorem dX12_goesHour_82 : decode cX12_goesHour 82 = .ok (.iconst 0, 1) := by decide +kernel
theorem dX12_goesHour_83 : decode cX12_goesHour 83 = .ok (.istore_n 2, 1) := by decide +kernel
theorem dX12_goesHour_84 : decode cX12_goesHour 84 = .ok (.iload_n 2, 1) := by decide +kernel
theorem dX12_goesHour_85 : decode cX12_goesHour 85 = .ok (.aload_n 0, 1) := by decide +kernel
theorem dX12_goesHour_86 : decode cX12_goesHour 86 = .ok (.getfield 13, 3) := by decide +kernel
theorem dX12_goesHour_89 : decode cX12_goesHour 89 = .ok (.iconst 3, 1) := by decide +kernel
theorem dX12_goesHour_90 : decode cX12_goesHour 90 = .ok (.iaload, 1) := by decide +kernel
theorem dX12_goesHour_91 : decode cX12_goesHour 91 = .ok (.if_icmp .ge 17, 3) := by decide +kernel
theorem dX12_goesHour_94 : decode cX12_goesHour 94 = .ok (.iload_n 1, 1) := by decide +kernel
theorem dX12_goesHour_95 : decode cX12_goesHour 95 = .ok (.aload_n 0, 1) := by decide +kernel
theorem dX12_goesHour_96 : decode cX12_goesHour 96 = .ok (.iload_n 2, 1) := by decide +kernel
theorem dX12_goesHour_97 : decode cX12_goesHour 97 = .ok (.invokevirtual 264, 3) := by decide +kernel
theorem dX12_goesHour_100 : decode cX12_goesHour 100 = .ok (.iadd, 1) := by decide +kernel
theorem dX12_goesHour_101 : decode cX12_goesHour 101 = .ok (.istore_n 1, 1) := by decide +kernel
theorem dX12_goesHour_102 : decode cX12_goesHour 102 = .ok (.iinc 2 1, 3) := by decide +kernel
theorem dX12_goesHour_105 : decode cX12_goesHour 105 = .ok (.goto (-21), 3) := by decide +kernel
theorem dX12_goesHour_108 : decode cX12_goesHour 108 = .ok (.iload_n 1, 1) := by decide +kernel
theorem dX12_goesHour_109 : decode cX12_goesHour 109 = .ok (.ireturn, 1) := by decide +kernel
theorem dX12_whyWhisper_0 : decode cX12_whyWhisper 0 = .ok (.aload_n 0, 1) := by decide +kernel
theorem dX12_whyWhisper_1 : decode cX12_whyWhisper 1 = .ok (.lload_n 1, 1) := by decide +kernel
theorem dX12_whyWhisper_2 : decode cX12_whyWhisper 2 = .ok (.invokevirtual 244, 3) := by decide +kernel
theorem dX12_whyWhisper_5 : decode cX12_whyWhisper 5 = .ok (.ifCond .ne 7, 3) := by decide +kernel
theorem dX12_whyWhisper_8 : decode cX12_whyWhisper 8 = .ok (.iconst 1, 1) := by decide +kernel
theorem dX12_whyWhisper_9 : decode cX12_whyWhisper 9 = .ok (.goto 20, 3) := by decide +kernel
theorem dX12_whyWhisper_12 : decode cX12_whyWhisper 12 = .ok (.aload_n 0, 1) := by decide +kernel
theorem dX12_whyWhisper_13 : decode cX12_whyWhisper 13 = .ok (.getfield 13, 3) := by decide +kernel
theorem dX12_whyWhisper_16 : decode cX12_whyWhisper 16 = .ok (.bipush 67, 2) := by decide +kernel
theorem dX12_whyWhisper_18 : decode cX12_whyWhisper 18 = .ok (.iaload, 1) := by decide +kernel
theorem dX12_whyWhisper_19 : decode cX12_whyWhisper 19 = .ok (.bipush 8, 2) := by decide +kernel
theorem dX12_whyWhisper_21 : decode cX12_whyWhisper 21 = .ok (.if_icmp .ne 7, 3) := by decide +kernel
theorem dX12_whyWhisper_24 : decode cX12_whyWhisper 24 = .ok (.iconst 2, 1) := by decide +kernel
theorem dX12_whyWhisper_25 : decode cX12_whyWhisper 25 = .ok (.goto 4, 3) := by decide +kernel
theorem dX12_whyWhisper_28 : decode cX12_whyWhisper 28 = .ok (.iconst 0, 1) := by decide +kernel
theorem dX12_whyWhisper_29 : decode cX12_whyWhisper 29 = .ok (.ireturn, 1) := by decide +kernel
theorem dX12_whyLay_0 : decode cX12_whyLay 0 = .ok (.aload_n 0, 1) := by decide +kernel
theorem dX12_whyLay_1 : decode cX12_whyLay 1 = .ok (.lload_n 1, 1) := by decide +kernel
theorem dX12_whyLay_2 : decode cX12_whyLay 2 = .ok (.invokevirtual 236, 3) := by decide +kernel
theorem dX12_whyLay_5 : decode cX12_whyLay 5 = .ok (.ifCond .ne 7, 3) := by decide +kernel
theorem dX12_whyLay_8 : decode cX12_whyLay 8 = .ok (.iconst 1, 1) := by decide +kernel
theorem dX12_whyLay_9 : decode cX12_whyLay 9 = .ok (.goto 22, 3) := by decide +kernel
theorem dX12_whyLay_12 : decode cX12_whyLay 12 = .ok (.aload_n 0, 1) := by decide +kernel
theorem dX12_whyLay_13 : decode cX12_whyLay 13 = .ok (.getfield 13, 3) := by decide +kernel
theorem dX12_whyLay_16 : decode cX12_whyLay 16 = .ok (.bipush 68, 2) := by decide +kernel
theorem dX12_whyLay_18 : decode cX12_whyLay 18 = .ok (.lload_n 1, 1) := by decide +kernel
theorem dX12_whyLay_19 : decode cX12_whyLay 19 = .ok (.l2i, 1) := by decide +kernel
theorem dX12_whyLay_20 : decode cX12_whyLay 20 = .ok (.iadd, 1) := by decide +kernel
theorem dX12_whyLay_21 : decode cX12_whyLay 21 = .ok (.iaload, 1) := by decide +kernel
theorem dX12_whyLay_22 : decode cX12_whyLay 22 = .ok (.iconst (-1), 1) := by decide +kernel
theorem dX12_whyLay_23 : decode cX12_whyLay 23 = .ok (.if_icmp .ne 7, 3) := by decide +kernel
theorem dX12_whyLay_26 : decode cX12_whyLay 26 = .ok (.iconst 2, 1) := by decide +kernel
theorem dX12_whyLay_27 : decode cX12_whyLay 27 = .ok (.goto 4, 3) := by decide +kernel
theorem dX12_whyLay_30 : decode cX12_whyLay 30 = .ok (.iconst 0, 1) := by decide +kernel
theorem dX12_whyLay_31 : decode cX12_whyLay 31 = .ok (.ireturn, 1) := by decide +kernel
theorem dX12_whispers_0 : decode cX12_whispers 0 = .ok (.aload_n 0, 1) := by decide +kernel
theorem dX12_whispers_1 : decode cX12_whispers 1 = .ok (.getfield 13, 3) := by decide +kernel
theorem dX12_whispers_4 : decode cX12_whispers 4 = .ok (.bipush 67, 2) := by decide +kernel
theorem dX12_whispers_6 : decode cX12_whispers 6 = .ok (.iaload, 1) := by decide +kernel
theorem dX12_whispers_7 : decode cX12_whispers 7 = .ok (.istore_n 2, 1) := by decide +kernel
theorem dX12_whispers_8 : decode cX12_whispers 8 = .ok (.aload_n 0, 1) := by decide +kernel
theorem dX12_whispers_9 : decode cX12_whispers 9 = .ok (.getfield 13, 3) := by decide +kernel
theorem dX12_whispers_12 : decode cX12_whispers 12 = .ok (.bipush 67, 2) := by decide +kernel
theorem dX12_whispers_14 : decode cX12_whispers 14 = .ok (.dup2, 1) := by decide +kernel
theorem dX12_whispers_15 : decode cX12_whispers 15 = .ok (.iaload, 1) := by decide +kernel
theorem dX12_whispers_16 : decode cX12_whispers 16 = .ok (.iconst 1, 1) := by decide +kernel
theorem dX12_whispers_17 : decode cX12_whispers 17 = .ok (.iadd, 1) := by decide +kernel
theorem dX12_whispers_18 : decode cX12_whispers 18 = .ok (.iastore, 1) := by decide +kernel
theorem dX12_whispers_19 : decode cX12_whispers 19 = .ok (.aload_n 0, 1) := by decide +kernel
theorem dX12_whispers_20 : decode cX12_whispers 20 = .ok (.getfield 13, 3) := by decide +kernel
theorem dX12_whispers_23 : decode cX12_whispers 23 = .ok (.bipush 76, 2) := by decide +kernel
theorem dX12_whispers_25 : decode cX12_whispers 25 = .ok (.iload_n 2, 1) := by decide +kernel
theorem dX12_whispers_26 : decode cX12_whispers 26 = .ok (.iadd, 1) := by decide +kernel
theorem dX12_whispers_27 : decode cX12_whispers 27 = .ok (.iconst 1, 1) := by decide +kernel
theorem dX12_whispers_28 : decode cX12_whispers 28 = .ok (.iload_n 1, 1) := by decide +kernel
theorem dX12_whispers_29 : decode cX12_whispers 29 = .ok (.ishl, 1) := by decide +kernel
theorem dX12_whispers_30 : decode cX12_whispers 30 = .ok (.iastore, 1) := by decide +kernel
theorem dX12_whispers_31 : decode cX12_whispers 31 = .ok (.aload_n 0, 1) := by decide +kernel
theorem dX12_whispers_32 : decode cX12_whispers 32 = .ok (.getfield 13, 3) := by decide +kernel
theorem dX12_whispers_35 : decode cX12_whispers 35 = .ok (.bipush 84, 2) := by decide +kernel
theorem dX12_whispers_37 : decode cX12_whispers 37 = .ok (.iload_n 2, 1) := by decide +kernel
theorem dX12_whispers_38 : decode cX12_whispers 38 = .ok (.iadd, 1) := by decide +kernel
theorem dX12_whispers_39 : decode cX12_whispers 39 = .ok (.iconst 0, 1) := by decide +kernel
theorem dX12_whispers_40 : decode cX12_whispers 40 = .ok (.iastore, 1) := by decide +kernel
theorem dX12_whispers_41 : decode cX12_whispers 41 = .ok (.aload_n 0, 1) := by decide +kernel
theorem dX12_whispers_42 : decode cX12_whispers 42 = .ok (.getfield 13, 3) := by decide +kernel
theorem dX12_whispers_45 : decode cX12_whispers 45 = .ok (.bipush 92, 2) := by decide +kernel
theorem dX12_whispers_47 : decode cX12_whispers 47 = .ok (.iload_n 2, 1) := by decide +kernel
theorem dX12_whispers_48 : decode cX12_whispers 48 = .ok (.iadd, 1) := by decide +kernel
theorem dX12_whispers_49 : decode cX12_whispers 49 = .ok (.iconst 0, 1) := by decide +kernel
theorem dX12_whispers_50 : decode cX12_whispers 50 = .ok (.iastore, 1) := by decide +kernel
theorem dX12_whispers_51 : decode cX12_whispers 51 = .ok (.iconst 0, 1) := by decide +kernel
theorem dX12_whispers_52 : decode cX12_whispers 52 = .ok (.istore_n 3, 1) := by decide +kernel
theorem dX12_whispers_53 : decode cX12_whispers 53 = .ok (.iload_n 3, 1) := by decide +kernel
theorem dX12_whispers_54 : decode cX12_whispers 54 = .ok (.bipush 10, 2) := by decide +kernel
theorem dX12_whispers_56 : decode cX12_whispers 56 = .ok (.if_icmp .ge 24, 3) := by decide +kernel
theorem dX12_whispers_59 : decode cX12_whispers 59 = .ok (.aload_n 0, 1) := by decide +kernel
theorem dX12_whispers_60 : decode cX12_whispers 60 = .ok (.getfield 13, 3) := by decide +kernel
theorem dX12_whispers_63 : decode cX12_whispers 63 = .ok (.bipush 100, 2) := by decide +kernel
theorem dX12_whispers_65 : decode cX12_whispers 65 = .ok (.bipush 10, 2) := by decide +kernel
theorem dX12_whispers_67 : decode cX12_whispers 67 = .ok (.iload_n 2, 1) := by decide +kernel
theorem dX12_whispers_68 : decode cX12_whispers 68 = .ok (.imul, 1) := by decide +kernel
theorem dX12_whispers_69 : decode cX12_whispers 69 = .ok (.iadd, 1) := by decide +kernel
theorem dX12_whispers_70 : decode cX12_whispers 70 = .ok (.iload_n 3, 1) := by decide +kernel
theorem dX12_whispers_71 : decode cX12_whispers 71 = .ok (.iadd, 1) := by decide +kernel
theorem dX12_whispers_72 : decode cX12_whispers 72 = .ok (.iconst 0, 1) := by decide +kernel
theorem dX12_whispers_73 : decode cX12_whispers 73 = .ok (.iastore, 1) := by decide +kernel
theorem dX12_whispers_74 : decode cX12_whispers 74 = .ok (.iinc 3 1, 3) := by decide +kernel
theorem dX12_whispers_77 : decode cX12_whispers 77 = .ok (.goto (-24), 3) := by decide +kernel
theorem dX12_whispers_80 : decode cX12_whispers 80 = .ok (.iload_n 2, 1) := by decide +kernel
theorem dX12_whispers_81 : decode cX12_whispers 81 = .ok (.ireturn, 1) := by decide +kernel
theorem dX12_seed_0 : decode cX12_seed 0 = .ok (.aload_n 0, 1) := by decide +kernel
theorem dX12_seed_1 : decode cX12_seed 1 = .ok (.iconst 0, 1) := by decide +kernel
theorem dX12_seed_2 : decode cX12_seed 2 = .ok (.putfield 1, 3) := by decide +kernel
theorem dX12_seed_5 : decode cX12_seed 5 = .ok (.aload_n 0, 1) := by decide +kernel
theorem dX12_seed_6 : decode cX12_seed 6 = .ok (.invokevirtual 267, 3) := by decide +kernel
theorem dX12_seed_9 : decode cX12_seed 9 = .ok (.aload_n 0, 1) := by decide +kernel
theorem dX12_seed_10 : decode cX12_seed 10 = .ok (.getfield 13, 3) := by decide +kernel
theorem dX12_seed_13 : decode cX12_seed 13 = .ok (.bipush 66, 2) := by decide +kernel
theorem dX12_seed_15 : decode cX12_seed 15 = .ok (.iload_n 1, 1) := by decide +kernel
theorem dX12_seed_16 : decode cX12_seed 16 = .ok (.iastore, 1) := by decide +kernel
theorem dX12_seed_17 : decode cX12_seed 17 = .ok (.aload_n 0, 1) := by decide +kernel
theorem dX12_seed_18 : decode cX12_seed 18 = .ok (.invokevirtual 270, 3) := by decide +kernel
theorem dX12_seed_21 : decode cX12_seed 21 = .ok (.aload_n 0, 1) := by decide +kernel
theorem dX12_seed_22 : decode cX12_seed 22 = .ok (.getfield 36, 3) := by decide +kernel
theorem dX12_seed_25 : decode cX12_seed 25 = .ok (.iconst 2, 1) := by decide +kernel
theorem dX12_seed_26 : decode cX12_seed 26 = .ok (.iaload, 1) := by decide +kernel
theorem dX12_seed_27 : decode cX12_seed 27 = .ok (.ireturn, 1) := by decide +kernel
theorem dX12_whisper_0 : decode cX12_whisper 0 = .ok (.aload_n 0, 1) := by decide +kernel
theorem dX12_whisper_1 : decode cX12_whisper 1 = .ok (.iconst 0, 1) := by decide +kernel
theorem dX12_whisper_2 : decode cX12_whisper 2 = .ok (.putfield 1, 3) := by decide +kernel
theorem dX12_whisper_5 : decode cX12_whisper 5 = .ok (.aload_n 0, 1) := by decide +kernel
theorem dX12_whisper_6 : decode cX12_whisper 6 = .ok (.iload_n 1, 1) := by decide +kernel
theorem dX12_whisper_7 : decode cX12_whisper 7 = .ok (.i2l, 1) := by decide +kernel
theorem dX12_whisper_8 : decode cX12_whisper 8 = .ok (.invokevirtual 273, 3) := by decide +kernel
theorem dX12_whisper_11 : decode cX12_whisper 11 = .ok (.istore_n 2, 1) := by decide +kernel
theorem dX12_whisper_12 : decode cX12_whisper 12 = .ok (.iload_n 2, 1) := by decide +kernel
theorem dX12_whisper_13 : decode cX12_whisper 13 = .ok (.ifCond .eq 8, 3) := by decide +kernel
theorem dX12_whisper_16 : decode cX12_whisper 16 = .ok (.bipush (-10), 2) := by decide +kernel
theorem dX12_whisper_18 : decode cX12_whisper 18 = .ok (.iload_n 2, 1) := by decide +kernel
theorem dX12_whisper_19 : decode cX12_whisper 19 = .ok (.isub, 1) := by decide +kernel
theorem dX12_whisper_20 : decode cX12_whisper 20 = .ok (.ireturn, 1) := by decide +kernel
theorem dX12_whisper_21 : decode cX12_whisper 21 = .ok (.aload_n 0, 1) := by decide +kernel
theorem dX12_whisper_22 : decode cX12_whisper 22 = .ok (.invokevirtual 267, 3) := by decide +kernel
theorem dX12_whisper_25 : decode cX12_whisper 25 = .ok (.aload_n 0, 1) := by decide +kernel
theorem dX12_whisper_26 : decode cX12_whisper 26 = .ok (.iload_n 1, 1) := by decide +kernel
theorem dX12_whisper_27 : decode cX12_whisper 27 = .ok (.invokevirtual 277, 3) := by decide +kernel
theorem dX12_whisper_30 : decode cX12_whisper 30 = .ok (.istore_n 3, 1) := by decide +kernel
theorem dX12_whisper_31 : decode cX12_whisper 31 = .ok (.aload_n 0, 1) := by decide +kernel
theorem dX12_whisper_32 : decode cX12_whisper 32 = .ok (.invokevirtual 270, 3) := by decide +kernel
theorem dX12_whisper_35 : decode cX12_whisper 35 = .ok (.iload_n 3, 1) := by decide +kernel
theorem dX12_whisper_36 : decode cX12_whisper 36 = .ok (.ireturn, 1) := by decide +kernel
theorem dX12_give_0 : decode cX12_give 0 = .ok (.aload_n 0, 1) := by decide +kernel
theorem dX12_give_1 : decode cX12_give 1 = .ok (.iconst 0, 1) := by decide +kernel
theorem dX12_give_2 : decode cX12_give 2 = .ok (.putfield 1, 3) := by decide +kernel
theorem dX12_give_5 : decode cX12_give 5 = .ok (.aload_n 0, 1) := by decide +kernel
theorem dX12_give_6 : decode cX12_give 6 = .ok (.iload_n 1, 1) := by decide +kernel
theorem dX12_give_7 : decode cX12_give 7 = .ok (.i2l, 1) := by decide +kernel
theorem dX12_give_8 : decode cX12_give 8 = .ok (.invokevirtual 236, 3) := by decide +kernel
theorem dX12_give_11 : decode cX12_give 11 = .ok (.ifCond .eq 12, 3) := by decide +kernel
theorem dX12_give_14 : decode cX12_give 14 = .ok (.aload_n 0, 1) := by decide +kernel
theorem dX12_give_15 : decode cX12_give 15 = .ok (.iload_n 2, 1) := by decide +kernel
theorem dX12_give_16 : decode cX12_give 16 = .ok (.i2l, 1) := by decide +kernel
theorem dX12_give_17 : decode cX12_give 17 = .ok (.invokevirtual 224, 3) := by decide +kernel
theorem dX12_give_20 : decode cX12_give 20 = .ok (.ifCond .ne 6, 3) := by decide +kernel
theorem dX12_give_23 : decode cX12_give 23 = .ok (.bipush (-11), 2) := by decide +kernel
theorem dX12_give_25 : decode cX12_give 25 = .ok (.ireturn, 1) := by decide +kernel
