theorem dX11_init_0 : decode cX11_init 0 = .ok (.aload_n 0, 1) := by decide +kernel
theorem dX11_init_1 : decode cX11_init 1 = .ok (.invokespecial 1, 3) := by decide +kernel
theorem dX11_init_4 : decode cX11_init 4 = .ok (.aload_n 0, 1) := by decide +kernel
theorem dX11_init_5 : decode cX11_init 5 = .ok (.sipush 900, 3) := by decide +kernel
theorem dX11_init_8 : decode cX11_init 8 = .ok (.newarray .byte, 2) := by decide +kernel
theorem dX11_init_10 : decode cX11_init 10 = .ok (.putfield 9, 3) := by decide +kernel
theorem dX11_init_13 : decode cX11_init 13 = .ok (.aload_n 0, 1) := by decide +kernel
theorem dX11_init_14 : decode cX11_init 14 = .ok (.iconst 0, 1) := by decide +kernel
theorem dX11_init_15 : decode cX11_init 15 = .ok (.putfield 13, 3) := by decide +kernel
theorem dX11_init_18 : decode cX11_init 18 = .ok (.aload_n 0, 1) := by decide +kernel
theorem dX11_init_19 : decode cX11_init 19 = .ok (.iconst 0, 1) := by decide +kernel
theorem dX11_init_20 : decode cX11_init 20 = .ok (.putfield 17, 3) := by decide +kernel
theorem dX11_init_23 : decode cX11_init 23 = .ok (.aload_n 0, 1) := by decide +kernel
theorem dX11_init_24 : decode cX11_init 24 = .ok (.iconst (-1), 1) := by decide +kernel
theorem dX11_init_25 : decode cX11_init 25 = .ok (.putfield 20, 3) := by decide +kernel
theorem dX11_init_28 : decode cX11_init 28 = .ok (.aload_n 0, 1) := by decide +kernel
theorem dX11_init_29 : decode cX11_init 29 = .ok (.new 23, 3) := by decide +kernel
theorem dX11_init_32 : decode cX11_init 32 = .ok (.dup, 1) := by decide +kernel
theorem dX11_init_33 : decode cX11_init 33 = .ok (.invokespecial 25, 3) := by decide +kernel
theorem dX11_init_36 : decode cX11_init 36 = .ok (.putfield 26, 3) := by decide +kernel
theorem dX11_init_39 : decode cX11_init 39 = .ok (.aload_n 0, 1) := by decide +kernel
theorem dX11_init_40 : decode cX11_init 40 = .ok (.new 30, 3) := by decide +kernel
theorem dX11_init_43 : decode cX11_init 43 = .ok (.dup, 1) := by decide +kernel
theorem dX11_init_44 : decode cX11_init 44 = .ok (.invokespecial 32, 3) := by decide +kernel
theorem dX11_init_47 : decode cX11_init 47 = .ok (.putfield 33, 3) := by decide +kernel
theorem dX11_init_50 : decode cX11_init 50 = .ok (.aload_n 0, 1) := by decide +kernel
theorem dX11_init_51 : decode cX11_init 51 = .ok (.new 37, 3) := by decide +kernel
theorem dX11_init_54 : decode cX11_init 54 = .ok (.dup, 1) := by decide +kernel
theorem dX11_init_55 : decode cX11_init 55 = .ok (.aload_n 0, 1) := by decide +kernel
theorem dX11_init_56 : decode cX11_init 56 = .ok (.getfield 26, 3) := by decide +kernel
theorem dX11_init_59 : decode cX11_init 59 = .ok (.invokespecial 39, 3) := by decide +kernel
theorem dX11_init_62 : decode cX11_init 62 = .ok (.putfield 42, 3) := by decide +kernel
theorem dX11_init_65 : decode cX11_init 65 = .ok (.aload_n 0, 1) := by decide +kernel
theorem dX11_init_66 : decode cX11_init 66 = .ok (.new 46, 3) := by decide +kernel
theorem dX11_init_69 : decode cX11_init 69 = .ok (.dup, 1) := by decide +kernel
theorem dX11_init_70 : decode cX11_init 70 = .ok (.invokespecial 48, 3) := by decide +kernel
theorem dX11_init_73 : decode cX11_init 73 = .ok (.putfield 49, 3) := by decide +kernel
theorem dX11_init_76 : decode cX11_init 76 = .ok (.aload_n 0, 1) := by decide +kernel
theorem dX11_init_77 : decode cX11_init 77 = .ok (.new 46, 3) := by decide +kernel
theorem dX11_init_80 : decode cX11_init 80 = .ok (.dup, 1) := by decide +kernel
theorem dX11_init_81 : decode cX11_init 81 = .ok (.invokespecial 48, 3) := by decide +kernel
theorem dX11_init_84 : decode cX11_init 84 = .ok (.putfield 53, 3) := by decide +kernel
theorem dX11_init_87 : decode cX11_init 87 = .ok (.aload_n 0, 1) := by decide +kernel
theorem dX11_init_88 : decode cX11_init 88 = .ok (.new 56, 3) := by decide +kernel
theorem dX11_init_91 : decode cX11_init 91 = .ok (.dup, 1) := by decide +kernel
theorem dX11_init_92 : decode cX11_init 92 = .ok (.invokespecial 58, 3) := by decide +kernel
theorem dX11_init_95 : decode cX11_init 95 = .ok (.putfield 59, 3) := by decide +kernel
theorem dX11_init_98 : decode cX11_init 98 = .ok (.aload_n 0, 1) := by decide +kernel
theorem dX11_init_99 : decode cX11_init 99 = .ok (.new 63, 3) := by decide +kernel
theorem dX11_init_102 : decode cX11_init 102 = .ok (.dup, 1) := by decide +kernel
theorem dX11_init_103 : decode cX11_init 103 = .ok (.aload_n 0, 1) := by decide +kernel
theorem dX11_init_104 : decode cX11_init 104 = .ok (.getfield 26, 3) := by decide +kernel
theorem dX11_init_107 : decode cX11_init 107 = .ok (.aload_n 0, 1) := by decide +kernel
theorem dX11_init_108 : decode cX11_init 108 = .ok (.getfield 42, 3) := by decide +kernel
theorem dX11_init_111 : decode cX11_init 111 = .ok (.aload_n 0, 1) := by decide +kernel
theorem dX11_init_112 : decode cX11_init 112 = .ok (.getfield 49, 3) := by decide +kernel
theorem dX11_init_115 : decode cX11_init 115 = .ok (.invokespecial 65, 3) := by decide +kernel
theorem dX11_init_118 : decode cX11_init 118 = .ok (.putfield 68, 3) := by decide +kernel
theorem dX11_init_121 : decode cX11_init 121 = .ok (.aload_n 0, 1) := by decide +kernel
theorem dX11_init_122 : decode cX11_init 122 = .ok (.new 72, 3) := by decide +kernel
theorem dX11_init_125 : decode cX11_init 125 = .ok (.dup, 1) := by decide +kernel
theorem dX11_init_126 : decode cX11_init 126 = .ok (.invokespecial 74, 3) := by decide +kernel
theorem dX11_init_129 : decode cX11_init 129 = .ok (.putfield 75, 3) := by decide +kernel
theorem dX11_init_132 : decode cX11_init 132 = .ok (.aload_n 0, 1) := by decide +kernel
theorem dX11_init_133 : decode cX11_init 133 = .ok (.iconst 4, 1) := by decide +kernel
theorem dX11_init_134 : decode cX11_init 134 = .ok (.anewarray 79, 3) := by decide +kernel
theorem dX11_init_137 : decode cX11_init 137 = .ok (.putfield 81, 3) := by decide +kernel
theorem dX11_init_140 : decode cX11_init 140 = .ok (.iconst 0, 1) := by decide +kernel
theorem dX11_init_141 : decode cX11_init 141 = .ok (.istore_n 1, 1) := by decide +kernel
theorem dX11_init_142 : decode cX11_init 142 = .ok (.iload_n 1, 1) := by decide +kernel
theorem dX11_init_143 : decode cX11_init 143 = .ok (.iconst 4, 1) := by decide +kernel
theorem dX11_init_144 : decode cX11_init 144 = .ok (.if_icmp .ge 22, 3) := by decide +kernel
theorem dX11_init_147 : decode cX11_init 147 = .ok (.aload_n 0, 1) := by decide +kernel
theorem dX11_init_148 : decode cX11_init 148 = .ok (.getfield 81, 3) := by decide +kernel
theorem dX11_init_151 : decode cX11_init 151 = .ok (.iload_n 1, 1) := by decide +kernel
theorem dX11_init_152 : decode cX11_init 152 = .ok (.new 79, 3) := by decide +kernel
theorem dX11_init_155 : decode cX11_init 155 = .ok (.dup, 1) := by decide +kernel
theorem dX11_init_156 : decode cX11_init 156 = .ok (.invokespecial 85, 3) := by decide +kernel
theorem dX11_init_159 : decode cX11_init 159 = .ok (.aastore, 1) := by decide +kernel
theorem dX11_init_160 : decode cX11_init 160 = .ok (.iinc 1 1, 3) := by decide +kernel
theorem dX11_init_163 : decode cX11_init 163 = .ok (.goto (-21), 3) := by decide +kernel
theorem dX11_init_166 : decode cX11_init 166 = .ok (.aload_n 0, 1) := by decide +kernel
theorem dX11_init_167 : decode cX11_init 167 = .ok (.iconst 2, 1) := by decide +kernel
theorem dX11_init_168 : decode cX11_init 168 = .ok (.anewarray 86, 3) := by decide +kernel
theorem dX11_init_171 : decode cX11_init 171 = .ok (.putfield 88, 3) := by decide +kernel
theorem dX11_init_174 : decode cX11_init 174 = .ok (.aload_n 0, 1) := by decide +kernel
theorem dX11_init_175 : decode cX11_init 175 = .ok (.bipush 6, 2) := by decide +kernel
theorem dX11_init_177 : decode cX11_init 177 = .ok (.newarray .int, 2) := by decide +kernel
theorem dX11_init_179 : decode cX11_init 179 = .ok (.putfield 92, 3) := by decide +kernel
theorem dX11_init_182 : decode cX11_init 182 = .ok (.return_, 1) := by decide +kernel
theorem dX11_feed_0 : decode cX11_feed 0 = .ok (.aload_n 0, 1) := by decide +kernel
theorem dX11_feed_1 : decode cX11_feed 1 = .ok (.getfield 13, 3) := by decide +kernel
theorem dX11_feed_4 : decode cX11_feed 4 = .ok (.bipush 20, 2) := by decide +kernel
theorem dX11_feed_6 : decode cX11_feed 6 = .ok (.iadd, 1) := by decide +kernel
theorem dX11_feed_7 : decode cX11_feed 7 = .ok (.sipush 900, 3) := by decide +kernel
theorem dX11_feed_10 : decode cX11_feed 10 = .ok (.if_icmp .le 6, 3) := by decide +kernel
theorem dX11_feed_13 : decode cX11_feed 13 = .ok (.bipush (-5), 2) := by decide +kernel
theorem dX11_feed_15 : decode cX11_feed 15 = .ok (.ireturn, 1) := by decide +kernel
theorem dX11_feed_16 : decode cX11_feed 16 = .ok (.aload_n 0, 1) := by decide +kernel
theorem dX11_feed_17 : decode cX11_feed 17 = .ok (.iload_n 1, 1) := by decide +kernel
theorem dX11_feed_18 : decode cX11_feed 18 = .ok (.invokevirtual 96, 3) := by decide +kernel
theorem dX11_feed_21 : decode cX11_feed 21 = .ok (.aload_n 0, 1) := by decide +kernel
theorem dX11_feed_22 : decode cX11_feed 22 = .ok (.iload_n 2, 1) := by decide +kernel
theorem dX11_feed_23 : decode cX11_feed 23 = .ok (.invokevirtual 96, 3) := by decide +kernel
theorem dX11_feed_26 : decode cX11_feed 26 = .ok (.aload_n 0, 1) := by decide +kernel
theorem dX11_feed_27 : decode cX11_feed 27 = .ok (.iload_n 3, 1) := by decide +kernel
theorem dX11_feed_28 : decode cX11_feed 28 = .ok (.invokevirtual 96, 3) := by decide +kernel
theorem dX11_feed_31 : decode cX11_feed 31 = .ok (.aload_n 0, 1) := by decide +kernel
theorem dX11_feed_32 : decode cX11_feed 32 = .ok (.iload 4, 2) := by decide +kernel
theorem dX11_feed_34 : decode cX11_feed 34 = .ok (.invokevirtual 96, 3) := by decide +kernel
theorem dX11_feed_37 : decode cX11_feed 37 = .ok (.aload_n 0, 1) := by decide +kernel
theorem dX11_feed_38 : decode cX11_feed 38 = .ok (.iload 5, 2) := by decide +kernel
theorem dX11_feed_40 : decode cX11_feed 40 = .ok (.invokevirtual 96, 3) := by decide +kernel
theorem dX11_feed_43 : decode cX11_feed 43 = .ok (.aload_n 0, 1) := by decide +kernel
theorem dX11_feed_44 : decode cX11_feed 44 = .ok (.getfield 13, 3) := by decide +kernel
theorem dX11_feed_47 : decode cX11_feed 47 = .ok (.ireturn, 1) := by decide +kernel
theorem dX11_sea_0 : decode cX11_sea 0 = .ok (.iload_n 1, 1) := by decide +kernel
theorem dX11_sea_1 : decode cX11_sea 1 = .ok (.ifCond .lt 11, 3) := by decide +kernel
theorem dX11_sea_4 : decode cX11_sea 4 = .ok (.iload_n 1, 1) := by decide +kernel
theorem dX11_sea_5 : decode cX11_sea 5 = .ok (.aload_n 0, 1) := by decide +kernel
theorem dX11_sea_6 : decode cX11_sea 6 = .ok (.getfield 13, 3) := by decide +kernel
theorem dX11_sea_9 : decode cX11_sea 9 = .ok (.if_icmp .le 6, 3) := by decide +kernel
theorem dX11_sea_12 : decode cX11_sea 12 = .ok (.bipush (-3), 2) := by decide +kernel
theorem dX11_sea_14 : decode cX11_sea 14 = .ok (.ireturn, 1) := by decide +kernel
theorem dX11_sea_15 : decode cX11_sea 15 = .ok (.aload_n 0, 1) := by decide +kernel
theorem dX11_sea_16 : decode cX11_sea 16 = .ok (.iconst 0, 1) := by decide +kernel
theorem dX11_sea_17 : decode cX11_sea 17 = .ok (.putfield 13, 3) := by decide +kernel
theorem dX11_sea_20 : decode cX11_sea 20 = .ok (.aload_n 0, 1) := by decide +kernel
theorem dX11_sea_21 : decode cX11_sea 21 = .ok (.getfield 33, 3) := by decide +kernel
theorem dX11_sea_24 : decode cX11_sea 24 = .ok (.aload_n 0, 1) := by decide +kernel
theorem dX11_sea_25 : decode cX11_sea 25 = .ok (.getfield 9, 3) := by decide +kernel
theorem dX11_sea_28 : decode cX11_sea 28 = .ok (.iload_n 1, 1) := by decide +kernel
theorem dX11_sea_29 : decode cX11_sea 29 = .ok (.invokevirtual 100, 3) := by decide +kernel
theorem dX11_sea_32 : decode cX11_sea 32 = .ok (.istore_n 2, 1) := by decide +kernel
theorem dX11_sea_33 : decode cX11_sea 33 = .ok (.aload_n 0, 1) := by decide +kernel
theorem dX11_sea_34 : decode cX11_sea 34 = .ok (.aload_n 0, 1) := by decide +kernel
theorem dX11_sea_35 : decode cX11_sea 35 = .ok (.getfield 33, 3) := by decide +kernel
theorem dX11_sea_38 : decode cX11_sea 38 = .ok (.getfield 104, 3) := by decide +kernel
theorem dX11_sea_41 : decode cX11_sea 41 = .ok (.putfield 17, 3) := by decide +kernel
theorem dX11_sea_44 : decode cX11_sea 44 = .ok (.aload_n 0, 1) := by decide +kernel
theorem dX11_sea_45 : decode cX11_sea 45 = .ok (.aload_n 0, 1) := by decide +kernel
theorem dX11_sea_46 : decode cX11_sea 46 = .ok (.getfield 33, 3) := by decide +kernel
theorem dX11_sea_49 : decode cX11_sea 49 = .ok (.getfield 107, 3) := by decide +kernel
theorem dX11_sea_52 : decode cX11_sea 52 = .ok (.putfield 20, 3) := by decide +kernel
theorem dX11_sea_55 : decode cX11_sea 55 = .ok (.iload_n 2, 1) := by decide +kernel
theorem dX11_sea_56 : decode cX11_sea 56 = .ok (.ifCond .ne 11, 3) := by decide +kernel
theorem dX11_sea_59 : decode cX11_sea 59 = .ok (.bipush (-30), 2) := by decide +kernel
theorem dX11_sea_61 : decode cX11_sea 61 = .ok (.aload_n 0, 1) := by decide +kernel
theorem dX11_sea_62 : decode cX11_sea 62 = .ok (.getfield 17, 3) := by decide +kernel
theorem dX11_sea_65 : decode cX11_sea 65 = .ok (.isub, 1) := by decide +kernel
theorem dX11_sea_66 : decode cX11_sea 66 = .ok (.ireturn, 1) := by decide +kernel
theorem dX11_sea_67 : decode cX11_sea 67 = .ok (.aload_n 0, 1) := by decide +kernel
theorem dX11_sea_68 : decode cX11_sea 68 = .ok (.getfield 26, 3) := by decide +kernel
theorem dX11_sea_71 : decode cX11_sea 71 = .ok (.aload_n 0, 1) := by decide +kernel
theorem dX11_sea_72 : decode cX11_sea 72 = .ok (.getfield 33, 3) := by decide +kernel
theorem dX11_sea_75 : decode cX11_sea 75 = .ok (.getfield 110, 3) := by decide +kernel
theorem dX11_sea_78 : decode cX11_sea 78 = .ok (.invokevirtual 111, 3) := by decide +kernel
theorem dX11_sea_81 : decode cX11_sea 81 = .ok (.aload_n 0, 1) := by decide +kernel
theorem dX11_sea_82 : decode cX11_sea 82 = .ok (.getfield 42, 3) := by decide +kernel
theorem dX11_sea_85 : decode cX11_sea 85 = .ok (.invokevirtual 114, 3) := by decide +kernel
theorem dX11_sea_88 : decode cX11_sea 88 = .ok (.aload_n 0, 1) := by decide +kernel
theorem dX11_sea_89 : decode cX11_sea 89 = .ok (.getfield 49, 3) := by decide +kernel
theorem dX11_sea_92 : decode cX11_sea 92 = .ok (.aload_n 0, 1) := by decide +kernel
theorem dX11_sea_93 : decode cX11_sea 93 = .ok (.getfield 26, 3) := by decide +kernel
theorem dX11_sea_96 : decode cX11_sea 96 = .ok (.invokevirtual 117, 3) := by decide +kernel
theorem dX11_sea_99 : decode cX11_sea 99 = .ok (.aload_n 0, 1) := by decide +kernel
theorem dX11_sea_100 : decode cX11_sea 100 = .ok (.getfield 59, 3) := by decide +kernel
theorem dX11_sea_103 : decode cX11_sea 103 = .ok (.invokevirtual 120, 3) := by decide +kernel
theorem dX11_sea_106 : decode cX11_sea 106 = .ok (.aload_n 0, 1) := by decide +kernel
theorem dX11_sea_107 : decode cX11_sea 107 = .ok (.getfield 26, 3) := by decide +kernel
theorem dX11_sea_110 : decode cX11_sea 110 = .ok (.getfield 121, 3) := by decide +kernel
theorem dX11_sea_113 : decode cX11_sea 113 = .ok (.ireturn, 1) := by decide +kernel
theorem dX11_fault_0 : decode cX11_fault 0 = .ok (.iload_n 1, 1) := by decide +kernel
theorem dX11_fault_1 : decode cX11_fault 1 = .ok (.ifCond .ne 8, 3) := by decide +kernel
theorem dX11_fault_4 : decode cX11_fault 4 = .ok (.aload_n 0, 1) := by decide +kernel
theorem dX11_fault_5 : decode cX11_fault 5 = .ok (.getfield 17, 3) := by decide +kernel
theorem dX11_fault_8 : decode cX11_fault 8 = .ok (.ireturn, 1) := by decide +kernel
theorem dX11_fault_9 : decode cX11_fault 9 = .ok (.iload_n 1, 1) := by decide +kernel
theorem dX11_fault_10 : decode cX11_fault 10 = .ok (.iconst 1, 1) := by decide +kernel
theorem dX11_fault_11 : decode cX11_fault 11 = .ok (.if_icmp .ne 10, 3) := by decide +kernel
theorem dX11_fault_14 : decode cX11_fault 14 = .ok (.aload_n 0, 1) := by decide +kernel
theorem dX11_fault_15 : decode cX11_fault 15 = .ok (.getfield 20, 3) := by decide +kernel
theorem dX11_fault_18 : decode cX11_fault 18 = .ok (.goto 4, 3) := by decide +kernel
theorem dX11_fault_21 : decode cX11_fault 21 = .ok (.iconst (-1), 1) := by decide +kernel
theorem dX11_fault_22 : decode cX11_fault 22 = .ok (.ireturn, 1) := by decide +kernel
theorem dX11_current_0 : decode cX11_current 0 = .ok (.iload_n 1, 1) := by decide +kernel
theorem dX11_current_1 : decode cX11_current 1 = .ok (.ifCond .lt 14, 3) := by decide +kernel
theorem dX11_current_4 : decode cX11_current 4 = .ok (.iload_n 1, 1) := by decide +kernel
theorem dX11_current_5 : decode cX11_current 5 = .ok (.aload_n 0, 1) := by decide +kernel
theorem dX11_current_6 : decode cX11_current 6 = .ok (.getfield 26, 3) := by decide +kernel
theorem dX11_current_9 : decode cX11_current 9 = .ok (.getfield 124, 3) := by decide +kernel
theorem dX11_current_12 : decode cX11_current 12 = .ok (.if_icmp .lt 6, 3) := by decide +kernel
theorem dX11_current_15 : decode cX11_current 15 = .ok (.bipush (-2), 2) := by decide +kernel
theorem dX11_current_17 : decode cX11_current 17 = .ok (.ireturn, 1) := by decide +kernel
theorem dX11_current_18 : decode cX11_current 18 = .ok (.iload_n 2, 1) := by decide +kernel
theorem dX11_current_19 : decode cX11_current 19 = .ok (.tableswitch 93 0 3 #[29, 39, 49, 59], 29) := by decide +kernel
theorem dX11_current_48 : decode cX11_current 48 = .ok (.aload_n 0, 1) := by decide +kernel
theorem dX11_current_49 : decode cX11_current 49 = .ok (.getfield 26, 3) := by decide +kernel
theorem dX11_current_52 : decode cX11_current 52 = .ok (.getfield 127, 3) := by decide +kernel
theorem dX11_current_55 : decode cX11_current 55 = .ok (.iload_n 1, 1) := by decide +kernel
theorem dX11_current_56 : decode cX11_current 56 = .ok (.iaload, 1) := by decide +kernel
theorem dX11_current_57 : decode cX11_current 57 = .ok (.ireturn, 1) := by decide +kernel
theorem dX11_current_58 : decode cX11_current 58 = .ok (.aload_n 0, 1) := by decide +kernel
theorem dX11_current_59 : decode cX11_current 59 = .ok (.getfield 26, 3) := by decide +kernel
theorem dX11_current_62 : decode cX11_current 62 = .ok (.getfield 130, 3) := by decide +kernel
theorem dX11_current_65 : decode cX11_current 65 = .ok (.iload_n 1, 1) := by decide +kernel
theorem dX11_current_66 : decode cX11_current 66 = .ok (.iaload, 1) := by decide +kernel
theorem dX11_current_67 : decode cX11_current 67 = .ok (.ireturn, 1) := by decide +kernel
theorem dX11_current_68 : decode cX11_current 68 = .ok (.aload_n 0, 1) := by decide +kernel
theorem dX11_current_69 : decode cX11_current 69 = .ok (.getfield 26, 3) := by decide +kernel
theorem dX11_current_72 : decode cX11_current 72 = .ok (.getfield 133, 3) := by decide +kernel
theorem dX11_current_75 : decode cX11_current 75 = .ok (.iload_n 1, 1) := by decide +kernel
theorem dX11_current_76 : decode cX11_current 76 = .ok (.iaload, 1) := by decide +kernel
theorem dX11_current_77 : decode cX11_current 77 = .ok (.ireturn, 1) := by decide +kernel
theorem dX11_current_78 : decode cX11_current 78 = .ok (.aload_n 0, 1) := by decide +kernel
theorem dX11_current_79 : decode cX11_current 79 = .ok (.getfield 42, 3) := by decide +kernel
theorem dX11_current_82 : decode cX11_current 82 = .ok (.aload_n 0, 1) := by decide +kernel
theorem dX11_current_83 : decode cX11_current 83 = .ok (.getfield 49, 3) := by decide +kernel
theorem dX11_current_86 : decode cX11_current 86 = .ok (.getfield 136, 3) := by decide +kernel
theorem dX11_current_89 : decode cX11_current 89 = .ok (.aload_n 0, 1) := by decide +kernel
theorem dX11_current_90 : decode cX11_current 90 = .ok (.getfield 49, 3) := by decide +kernel
theorem dX11_current_93 : decode cX11_current 93 = .ok (.getfield 139, 3) := by decide +kernel
theorem dX11_current_96 : decode cX11_current 96 = .ok (.ifCond .le 7, 3) := by decide +kernel
theorem dX11_current_99 : decode cX11_current 99 = .ok (.iconst 1, 1) := by decide +kernel
theorem dX11_current_100 : decode cX11_current 100 = .ok (.goto 4, 3) := by decide +kernel
theorem dX11_current_103 : decode cX11_current 103 = .ok (.iconst 0, 1) := by decide +kernel
theorem dX11_current_104 : decode cX11_current 104 = .ok (.invokevirtual 142, 3) := by decide +kernel
theorem dX11_current_107 : decode cX11_current 107 = .ok (.iload_n 1, 1) := by decide +kernel
theorem dX11_current_108 : decode cX11_current 108 = .ok (.ishr, 1) := by decide +kernel
theorem dX11_current_109 : decode cX11_current 109 = .ok (.iconst 1, 1) := by decide +kernel
theorem dX11_current_110 : decode cX11_current 110 = .ok (.iand, 1) := by decide +kernel
theorem dX11_current_111 : decode cX11_current 111 = .ok (.ireturn, 1) := by decide +kernel
theorem dX11_current_112 : decode cX11_current 112 = .ok (.bipush (-2), 2) := by decide +kernel
theorem dX11_current_114 : decode cX11_current 114 = .ok (.ireturn, 1) := by decide +kernel
theorem dX11_person_0 : decode cX11_person 0 = .ok (.aload_n 0, 1) := by decide +kernel
theorem dX11_person_1 : decode cX11_person 1 = .ok (.iload_n 1, 1) := by decide +kernel
theorem dX11_person_2 : decode cX11_person 2 = .ok (.invokevirtual 146, 3) := by decide +kernel
theorem dX11_person_5 : decode cX11_person 5 = .ok (.ifCond .ne 6, 3) := by decide +kernel
theorem dX11_person_8 : decode cX11_person 8 = .ok (.bipush (-2), 2) := by decide +kernel
theorem dX11_person_10 : decode cX11_person 10 = .ok (.ireturn, 1) := by decide +kernel
theorem dX11_person_11 : decode cX11_person 11 = .ok (.iload_n 2, 1) := by decide +kernel
theorem dX11_person_12 : decode cX11_person 12 = .ok (.tableswitch 127 0 4 #[36, 46, 58, 68, 81], 36) := by decide +kernel
theorem dX11_person_48 : decode cX11_person 48 = .ok (.aload_n 0, 1) := by decide +kernel
theorem dX11_person_49 : decode cX11_person 49 = .ok (.getfield 26, 3) := by decide +kernel
theorem dX11_person_52 : decode cX11_person 52 = .ok (.getfield 150, 3) := by decide +kernel
theorem dX11_person_55 : decode cX11_person 55 = .ok (.iload_n 1, 1) := by decide +kernel
theorem dX11_person_56 : decode cX11_person 56 = .ok (.iaload, 1) := by decide +kernel
theorem dX11_person_57 : decode cX11_person 57 = .ok (.ireturn, 1) := by decide +kernel
theorem dX11_person_58 : decode cX11_person 58 = .ok (.aload_n 0, 1) := by decide +kernel
theorem dX11_person_59 : decode cX11_person 59 = .ok (.getfield 26, 3) := by decide +kernel
theorem dX11_person_62 : decode cX11_person 62 = .ok (.getfield 153, 3) := by decide +kernel
theorem dX11_person_65 : decode cX11_person 65 = .ok (.iload_n 1, 1) := by decide +kernel
theorem dX11_person_66 : decode cX11_person 66 = .ok (.ishr, 1) := by decide +kernel
theorem dX11_person_67 : decode cX11_person 67 = .ok (.iconst 1, 1) := by decide +kernel
theorem dX11_person_68 : decode cX11_person 68 = .ok (.iand, 1) := by decide +kernel
theorem dX11_person_69 : decode cX11_person 69 = .ok (.ireturn, 1) := by decide +kernel
theorem dX11_person_70 : decode cX11_person 70 = .ok (.aload_n 0, 1) := by decide +kernel
theorem dX11_person_71 : decode cX11_person 71 = .ok (.getfield 49, 3) := by decide +kernel
theorem dX11_person_74 : decode cX11_person 74 = .ok (.getfield 156, 3) := by decide +kernel
theorem dX11_person_77 : decode cX11_person 77 = .ok (.iload_n 1, 1) := by decide +kernel
theorem dX11_person_78 : decode cX11_person 78 = .ok (.iaload, 1) := by decide +kernel
theorem dX11_person_79 : decode cX11_person 79 = .ok (.ireturn, 1) := by decide +kernel
theorem dX11_person_80 : decode cX11_person 80 = .ok (.aload_n 0, 1) := by decide +kernel
theorem dX11_person_81 : decode cX11_person 81 = .ok (.getfield 49, 3) := by decide +kernel
theorem dX11_person_84 : decode cX11_person 84 = .ok (.aload_n 0, 1) := by decide +kernel
theorem dX11_person_85 : decode cX11_person 85 = .ok (.getfield 26, 3) := by decide +kernel
theorem dX11_person_88 : decode cX11_person 88 = .ok (.iload_n 1, 1) := by decide +kernel
theorem dX11_person_89 : decode cX11_person 89 = .ok (.invokevirtual 159, 3) := by decide +kernel
theorem dX11_person_92 : decode cX11_person 92 = .ok (.ireturn, 1) := by decide +kernel
theorem dX11_person_93 : decode cX11_person 93 = .ok (.aload_n 0, 1) := by decide +kernel
theorem dX11_person_94 : decode cX11_person 94 = .ok (.getfield 42, 3) := by decide +kernel
theorem dX11_person_97 : decode cX11_person 97 = .ok (.aload_n 0, 1) := by decide +kernel
theorem dX11_person_98 : decode cX11_person 98 = .ok (.getfield 49, 3) := by decide +kernel
theorem dX11_person_101 : decode cX11_person 101 = .ok (.getfield 136, 3) := by decide +kernel
theorem dX11_person_104 : decode cX11_person 104 = .ok (.aload_n 0, 1) := by decide +kernel
theorem dX11_person_105 : decode cX11_person 105 = .ok (.getfield 49, 3) := by decide +kernel
theorem dX11_person_108 : decode cX11_person 108 = .ok (.getfield 139, 3) := by decide +kernel
theorem dX11_person_111 : decode cX11_person 111 = .ok (.ifCond .le 7, 3) := by decide +kernel
theorem dX11_person_114 : decode cX11_person 114 = .ok (.iconst 1, 1) := by decide +kernel
theorem dX11_person_115 : decode cX11_person 115 = .ok (.goto 4, 3) := by decide +kernel
theorem dX11_person_118 : decode cX11_person 118 = .ok (.iconst 0, 1) := by decide +kernel
theorem dX11_person_119 : decode cX11_person 119 = .ok (.aload_n 0, 1) := by decide +kernel
theorem dX11_person_120 : decode cX11_person 120 = .ok (.getfield 49, 3) := by decide +kernel
theorem dX11_person_123 : decode cX11_person 123 = .ok (.getfield 156, 3) := by decide +kernel
theorem dX11_person_126 : decode cX11_person 126 = .ok (.iload_n 1, 1) := by decide +kernel
theorem dX11_person_127 : decode cX11_person 127 = .ok (.iaload, 1) := by decide +kernel
theorem dX11_person_128 : decode cX11_person 128 = .ok (.invokestatic 163, 3) := by decide +kernel
theorem dX11_person_131 : decode cX11_person 131 = .ok (.invokevirtual 169, 3) := by decide +kernel
theorem dX11_person_134 : decode cX11_person 134 = .ok (.iload_n 1, 1) := by decide +kernel
theorem dX11_person_135 : decode cX11_person 135 = .ok (.ishr, 1) := by decide +kernel
theorem dX11_person_136 : decode cX11_person 136 = .ok (.iconst 1, 1) := by decide +kernel
theorem dX11_person_137 : decode cX11_person 137 = .ok (.iand, 1) := by decide +kernel
theorem dX11_person_138 : decode cX11_person 138 = .ok (.ireturn, 1) := by decide +kernel
theorem dX11_person_139 : decode cX11_person 139 = .ok (.bipush (-2), 2) := by decide +kernel
theorem dX11_person_141 : decode cX11_person 141 = .ok (.ireturn, 1) := by decide +kernel
theorem dX11_shell_0 : decode cX11_shell 0 = .ok (.aload_n 0, 1) := by decide +kernel
theorem dX11_shell_1 : decode cX11_shell 1 = .ok (.iload_n 1, 1) := by decide +kernel
theorem dX11_shell_2 : decode cX11_shell 2 = .ok (.invokevirtual 173, 3) := by decide +kernel
theorem dX11_shell_5 : decode cX11_shell 5 = .ok (.ifCond .ne 6, 3) := by decide +kernel
theorem dX11_shell_8 : decode cX11_shell 8 = .ok (.bipush (-2), 2) := by decide +kernel
theorem dX11_shell_10 : decode cX11_shell 10 = .ok (.ireturn, 1) := by decide +kernel
theorem dX11_shell_11 : decode cX11_shell 11 = .ok (.iload_n 2, 1) := by decide +kernel
theorem dX11_shell_12 : decode cX11_shell 12 = .ok (.ifCond .ne 13, 3) := by decide +kernel
theorem dX11_shell_15 : decode cX11_shell 15 = .ok (.aload_n 0, 1) := by decide +kernel
theorem dX11_shell_16 : decode cX11_shell 16 = .ok (.getfield 26, 3) := by decide +kernel
theorem dX11_shell_19 : decode cX11_shell 19 = .ok (.getfield 176, 3) := by decide +kernel
theorem dX11_shell_22 : decode cX11_shell 22 = .ok (.iload_n 1, 1) := by decide +kernel
theorem dX11_shell_23 : decode cX11_shell 23 = .ok (.iaload, 1) := by decide +kernel
theorem dX11_shell_24 : decode cX11_shell 24 = .ok (.ireturn, 1) := by decide +kernel
theorem dX11_shell_25 : decode cX11_shell 25 = .ok (.iload_n 2, 1) := by decide +kernel
theorem dX11_shell_26 : decode cX11_shell 26 = .ok (.iconst 1, 1) := by decide +kernel
theorem dX11_shell_27 : decode cX11_shell 27 = .ok (.if_icmp .ne 15, 3) := by decide +kernel
theorem dX11_shell_30 : decode cX11_shell 30 = .ok (.aload_n 0, 1) := by decide +kernel
theorem dX11_shell_31 : decode cX11_shell 31 = .ok (.getfield 49, 3) := by decide +kernel
theorem dX11_shell_34 : decode cX11_shell 34 = .ok (.getfield 179, 3) := by decide +kernel
theorem dX11_shell_37 : decode cX11_shell 37 = .ok (.iload_n 1, 1) := by decide +kernel
theorem dX11_shell_38 : decode cX11_shell 38 = .ok (.iaload, 1) := by decide +kernel
theorem dX11_shell_39 : decode cX11_shell 39 = .ok (.goto 5, 3) := by decide +kernel
theorem dX11_shell_42 : decode cX11_shell 42 = .ok (.bipush (-2), 2) := by decide +kernel
theorem dX11_shell_44 : decode cX11_shell 44 = .ok (.ireturn, 1) := by decide +kernel
theorem dX11_word_0 : decode cX11_word 0 = .ok (.aload_n 0, 1) := by decide +kernel
theorem dX11_word_1 : decode cX11_word 1 = .ok (.iload_n 1, 1) := by decide +kernel
theorem dX11_word_2 : decode cX11_word 2 = .ok (.invokevirtual 182, 3) := by decide +kernel
theorem dX11_word_5 : decode cX11_word 5 = .ok (.ifCond .ne 6, 3) := by decide +kernel
theorem dX11_word_8 : decode cX11_word 8 = .ok (.bipush (-2), 2) := by decide +kernel
theorem dX11_word_10 : decode cX11_word 10 = .ok (.ireturn, 1) := by decide +kernel
theorem dX11_word_11 : decode cX11_word 11 = .ok (.iload_n 2, 1) := by decide +kernel
theorem dX11_word_12 : decode cX11_word 12 = .ok (.tableswitch 60 0 2 #[28, 38, 51], 28) := by decide +kernel
theorem dX11_word_40 : decode cX11_word 40 = .ok (.aload_n 0, 1) := by decide +kernel
theorem dX11_word_41 : decode cX11_word 41 = .ok (.getfield 49, 3) := by decide +kernel
theorem dX11_word_44 : decode cX11_word 44 = .ok (.getfield 185, 3) := by decide +kernel
theorem dX11_word_47 : decode cX11_word 47 = .ok (.iload_n 1, 1) := by decide +kernel
theorem dX11_word_48 : decode cX11_word 48 = .ok (.iaload, 1) := by decide +kernel
theorem dX11_word_49 : decode cX11_word 49 = .ok (.ireturn, 1) := by decide +kernel
theorem dX11_word_50 : decode cX11_word 50 = .ok (.aload_n 0, 1) := by decide +kernel
theorem dX11_word_51 : decode cX11_word 51 = .ok (.getfield 49, 3) := by decide +kernel
theorem dX11_word_54 : decode cX11_word 54 = .ok (.getfield 188, 3) := by decide +kernel
theorem dX11_word_57 : decode cX11_word 57 = .ok (.iload_n 1, 1) := by decide +kernel
theorem dX11_word_58 : decode cX11_word 58 = .ok (.iaload, 1) := by decide +kernel
theorem dX11_word_59 : decode cX11_word 59 = .ok (.invokestatic 163, 3) := by decide +kernel
theorem dX11_word_62 : decode cX11_word 62 = .ok (.ireturn, 1) := by decide +kernel
theorem dX11_word_63 : decode cX11_word 63 = .ok (.aload_n 0, 1) := by decide +kernel
theorem dX11_word_64 : decode cX11_word 64 = .ok (.getfield 49, 3) := by decide +kernel
theorem dX11_word_67 : decode cX11_word 67 = .ok (.iload_n 1, 1) := by decide +kernel
theorem dX11_word_68 : decode cX11_word 68 = .ok (.invokevirtual 191, 3) := by decide +kernel
theorem dX11_word_71 : decode cX11_word 71 = .ok (.ireturn, 1) := by decide +kernel
theorem dX11_word_72 : decode cX11_word 72 = .ok (.bipush (-2), 2) := by decide +kernel
theorem dX11_word_74 : decode cX11_word 74 = .ok (.ireturn, 1) := by decide +kernel
theorem dX11_sound_0 : decode cX11_sound 0 = .ok (.aload_n 0, 1) := by decide +kernel
theorem dX11_sound_1 : decode cX11_sound 1 = .ok (.iload_n 1, 1) := by decide +kernel
theorem dX11_sound_2 : decode cX11_sound 2 = .ok (.invokevirtual 194, 3) := by decide +kernel
theorem dX11_sound_5 : decode cX11_sound 5 = .ok (.ifCond .ne 6, 3) := by decide +kernel
theorem dX11_sound_8 : decode cX11_sound 8 = .ok (.bipush (-2), 2) := by decide +kernel
theorem dX11_sound_10 : decode cX11_sound 10 = .ok (.ireturn, 1) := by decide +kernel
theorem dX11_sound_11 : decode cX11_sound 11 = .ok (.iload_n 2, 1) := by decide +kernel
theorem dX11_sound_12 : decode cX11_sound 12 = .ok (.iconst 0, 1) := by decide +kernel
theorem dX11_sound_13 : decode cX11_sound 13 = .ok (.sipush 999, 3) := by decide +kernel
theorem dX11_sound_16 : decode cX11_sound 16 = .ok (.invokestatic 197, 3) := by decide +kernel
theorem dX11_sound_19 : decode cX11_sound 19 = .ok (.ifCond .ne 6, 3) := by decide +kernel
theorem dX11_sound_22 : decode cX11_sound 22 = .ok (.bipush (-3), 2) := by decide +kernel
theorem dX11_sound_24 : decode cX11_sound 24 = .ok (.ireturn, 1) := by decide +kernel
theorem dX11_sound_25 : decode cX11_sound 25 = .ok (.aload_n 0, 1) := by decide +kernel
theorem dX11_sound_26 : decode cX11_sound 26 = .ok (.iload_n 1, 1) := by decide +kernel
theorem dX11_sound_27 : decode cX11_sound 27 = .ok (.iload_n 2, 1) := by decide +kernel
theorem dX11_sound_28 : decode cX11_sound 28 = .ok (.invokevirtual 201, 3) := by decide +kernel
theorem dX11_sound_31 : decode cX11_sound 31 = .ok (.ireturn, 1) := by decide +kernel
theorem dX11_seed_0 : decode cX11_seed 0 = .ok (.aload_n 0, 1) := by decide +kernel
theorem dX11_seed_1 : decode cX11_seed 1 = .ok (.getfield 49, 3) := by decide +kernel
theorem dX11_seed_4 : decode cX11_seed 4 = .ok (.getfield 205, 3) := by decide +kernel
theorem dX11_seed_7 : decode cX11_seed 7 = .ok (.istore_n 2, 1) := by decide +kernel
theorem dX11_seed_8 : decode cX11_seed 8 = .ok (.aload_n 0, 1) := by decide +kernel
theorem dX11_seed_9 : decode cX11_seed 9 = .ok (.getfield 59, 3) := by decide +kernel
theorem dX11_seed_12 : decode cX11_seed 12 = .ok (.aload_n 0, 1) := by decide +kernel
theorem dX11_seed_13 : decode cX11_seed 13 = .ok (.getfield 49, 3) := by decide +kernel
theorem dX11_seed_16 : decode cX11_seed 16 = .ok (.invokevirtual 208, 3) := by decide +kernel
theorem dX11_seed_19 : decode cX11_seed 19 = .ok (.aload_n 0, 1) := by decide +kernel
theorem dX11_seed_20 : decode cX11_seed 20 = .ok (.getfield 49, 3) := by decide +kernel
theorem dX11_seed_23 : decode cX11_seed 23 = .ok (.iload_n 1, 1) := by decide +kernel
theorem dX11_seed_24 : decode cX11_seed 24 = .ok (.putfield 205, 3) := by decide +kernel
theorem dX11_seed_27 : decode cX11_seed 27 = .ok (.iload_n 2, 1) := by decide +kernel
theorem dX11_seed_28 : decode cX11_seed 28 = .ok (.ireturn, 1) := by decide +kernel
theorem dX11_whisper_0 : decode cX11_whisper 0 = .ok (.aload_n 0, 1) := by decide +kernel
theorem dX11_whisper_1 : decode cX11_whisper 1 = .ok (.aload_n 0, 1) := by decide +kernel
theorem dX11_whisper_2 : decode cX11_whisper 2 = .ok (.iload_n 1, 1) := by decide +kernel
theorem dX11_whisper_3 : decode cX11_whisper 3 = .ok (.invokevirtual 194, 3) := by decide +kernel
theorem dX11_whisper_6 : decode cX11_whisper 6 = .ok (.ifCond .eq 7, 3) := by decide +kernel
theorem dX11_whisper_9 : decode cX11_whisper 9 = .ok (.iload_n 1, 1) := by decide +kernel
theorem dX11_whisper_10 : decode cX11_whisper 10 = .ok (.goto 6, 3) := by decide +kernel
theorem dX11_whisper_13 : decode cX11_whisper 13 = .ok (.sipush 900, 3) := by decide +kernel
theorem dX11_whisper_16 : decode cX11_whisper 16 = .ok (.invokevirtual 212, 3) := by decide +kernel
theorem dX11_whisper_19 : decode cX11_whisper 19 = .ok (.istore_n 2, 1) := by decide +kernel
theorem dX11_whisper_20 : decode cX11_whisper 20 = .ok (.iload_n 2, 1) := by decide +kernel
theorem dX11_whisper_21 : decode cX11_whisper 21 = .ok (.ifCond .ne 15, 3) := by decide +kernel
theorem dX11_whisper_24 : decode cX11_whisper 24 = .ok (.aload_n 0, 1) := by decide +kernel
theorem dX11_whisper_25 : decode cX11_whisper 25 = .ok (.getfield 49, 3) := by decide +kernel
theorem dX11_whisper_28 : decode cX11_whisper 28 = .ok (.getfield 215, 3) := by decide +kernel
theorem dX11_whisper_31 : decode cX11_whisper 31 = .ok (.iconst 1, 1) := by decide +kernel
theorem dX11_whisper_32 : decode cX11_whisper 32 = .ok (.isub, 1) := by decide +kernel
theorem dX11_whisper_33 : decode cX11_whisper 33 = .ok (.goto 7, 3) := by decide +kernel
theorem dX11_whisper_36 : decode cX11_whisper 36 = .ok (.bipush (-10), 2) := by decide +kernel
theorem dX11_whisper_38 : decode cX11_whisper 38 = .ok (.iload_n 2, 1) := by decide +kernel
theorem dX11_whisper_39 : decode cX11_whisper 39 = .ok (.isub, 1) := by decide +kernel
theorem dX11_whisper_40 : decode cX11_whisper 40 = .ok (.ireturn, 1) := by decide +kernel
theorem dX11_give_0 : decode cX11_give 0 = .ok (.aload_n 0, 1) := by decide +kernel
theorem dX11_give_1 : decode cX11_give 1 = .ok (.iload_n 1, 1) := by decide +kernel
theorem dX11_give_2 : decode cX11_give 2 = .ok (.invokevirtual 173, 3) := by decide +kernel
theorem dX11_give_5 : decode cX11_give 5 = .ok (.ifCond .eq 11, 3) := by decide +kernel
theorem dX11_give_8 : decode cX11_give 8 = .ok (.aload_n 0, 1) := by decide +kernel
theorem dX11_give_9 : decode cX11_give 9 = .ok (.iload_n 2, 1) := by decide +kernel
theorem dX11_give_10 : decode cX11_give 10 = .ok (.invokevirtual 146, 3) := by decide +kernel
theorem dX11_give_13 : decode cX11_give 13 = .ok (.ifCond .ne 6, 3) := by decide +kernel
theorem dX11_give_16 : decode cX11_give 16 = .ok (.bipush (-11), 2) := by decide +kernel
theorem dX11_give_18 : decode cX11_give 18 = .ok (.ireturn, 1) := by decide +kernel
theorem dX11_give_19 : decode cX11_give 19 = .ok (.aload_n 0, 1) := by decide +kernel
theorem dX11_give_20 : decode cX11_give 20 = .ok (.getfield 49, 3) := by decide +kernel
theorem dX11_give_23 : decode cX11_give 23 = .ok (.getfield 179, 3) := by decide +kernel
theorem dX11_give_26 : decode cX11_give 26 = .ok (.iload_n 1, 1) := by decide +kernel
theorem dX11_give_27 : decode cX11_give 27 = .ok (.iaload, 1) := by decide +kernel
theorem dX11_give_28 : decode cX11_give 28 = .ok (.istore_n 3, 1) := by decide +kernel
theorem dX11_give_29 : decode cX11_give 29 = .ok (.aload_n 0, 1) := by decide +kernel
theorem dX11_give_30 : decode cX11_give 30 = .ok (.bipush 100, 2) := by decide +kernel
theorem dX11_give_32 : decode cX11_give 32 = .ok (.iload_n 1, 1) := by decide +kernel
theorem dX11_give_33 : decode cX11_give 33 = .ok (.bipush 100, 2) := by decide +kernel
theorem dX11_give_35 : decode cX11_give 35 = .ok (.imul, 1) := by decide +kernel
theorem dX11_give_36 : decode cX11_give 36 = .ok (.iadd, 1) := by decide +kernel
theorem dX11_give_37 : decode cX11_give 37 = .ok (.iload_n 2, 1) := by decide +kernel
theorem dX11_give_38 : decode cX11_give 38 = .ok (.iadd, 1) := by decide +kernel
theorem dX11_give_39 : decode cX11_give 39 = .ok (.invokevirtual 212, 3) := by decide +kernel
theorem dX11_give_42 : decode cX11_give 42 = .ok (.pop, 1) := by decide +kernel
theorem dX11_give_43 : decode cX11_give 43 = .ok (.iload_n 3, 1) := by decide +kernel
theorem dX11_give_44 : decode cX11_give 44 = .ok (.ireturn, 1) := by decide +kernel
theorem dX11_lay_0 : decode cX11_lay 0 = .ok (.aload_n 0, 1) := by decide +kernel
theorem dX11_lay_1 : decode cX11_lay 1 = .ok (.iload_n 1, 1) := by decide +kernel
theorem dX11_lay_2 : decode cX11_lay 2 = .ok (.invokevirtual 173, 3) := by decide +kernel
theorem dX11_lay_5 : decode cX11_lay 5 = .ok (.ifCond .eq 15, 3) := by decide +kernel
theorem dX11_lay_8 : decode cX11_lay 8 = .ok (.aload_n 0, 1) := by decide +kernel
theorem dX11_lay_9 : decode cX11_lay 9 = .ok (.getfield 49, 3) := by decide +kernel
theorem dX11_lay_12 : decode cX11_lay 12 = .ok (.getfield 179, 3) := by decide +kernel
theorem dX11_lay_15 : decode cX11_lay 15 = .ok (.iload_n 1, 1) := by decide +kernel
theorem dX11_lay_16 : decode cX11_lay 16 = .ok (.iaload, 1) := by decide +kernel
theorem dX11_lay_17 : decode cX11_lay 17 = .ok (.goto 4, 3) := by decide +kernel
theorem dX11_lay_20 : decode cX11_lay 20 = .ok (.iconst (-1), 1) := by decide +kernel
theorem dX11_lay_21 : decode cX11_lay 21 = .ok (.istore_n 2, 1) := by decide +kernel
theorem dX11_lay_22 : decode cX11_lay 22 = .ok (.aload_n 0, 1) := by decide +kernel
theorem dX11_lay_23 : decode cX11_lay 23 = .ok (.aload_n 0, 1) := by decide +kernel
theorem dX11_lay_24 : decode cX11_lay 24 = .ok (.iload_n 1, 1) := by decide +kernel
theorem dX11_lay_25 : decode cX11_lay 25 = .ok (.invokevirtual 173, 3) := by decide +kernel
theorem dX11_lay_28 : decode cX11_lay 28 = .ok (.ifCond .eq 11, 3) := by decide +kernel
theorem dX11_lay_31 : decode cX11_lay 31 = .ok (.sipush 1000, 3) := by decide +kernel
theorem dX11_lay_34 : decode cX11_lay 34 = .ok (.iload_n 1, 1) := by decide +kernel
theorem dX11_lay_35 : decode cX11_lay 35 = .ok (.iadd, 1) := by decide +kernel
theorem dX11_lay_36 : decode cX11_lay 36 = .ok (.goto 6, 3) := by decide +kernel
theorem dX11_lay_39 : decode cX11_lay 39 = .ok (.sipush 900, 3) := by decide +kernel
theorem dX11_lay_42 : decode cX11_lay 42 = .ok (.invokevirtual 212, 3) := by decide +kernel
theorem dX11_lay_45 : decode cX11_lay 45 = .ok (.istore_n 3, 1) := by decide +kernel
theorem dX11_lay_46 : decode cX11_lay 46 = .ok (.iload_n 3, 1) := by decide +kernel
theorem dX11_lay_47 : decode cX11_lay 47 = .ok (.ifCond .ne 7, 3) := by decide +kernel
theorem dX11_lay_50 : decode cX11_lay 50 = .ok (.iload_n 2, 1) := by decide +kernel
theorem dX11_lay_51 : decode cX11_lay 51 = .ok (.goto 7, 3) := by decide +kernel
theorem dX11_lay_54 : decode cX11_lay 54 = .ok (.bipush (-10), 2) := by decide +kernel
theorem dX11_lay_56 : decode cX11_lay 56 = .ok (.iload_n 3, 1) := by decide +kernel
theorem dX11_lay_57 : decode cX11_lay 57 = .ok (.isub, 1) := by decide +kernel
theorem dX11_lay_58 : decode cX11_lay 58 = .ok (.ireturn, 1) := by decide +kernel
theorem dX11_gale_0 : decode cX11_gale 0 = .ok (.iload_n 1, 1) := by decide +kernel
theorem dX11_gale_1 : decode cX11_gale 1 = .ok (.iconst 0, 1) := by decide +kernel
theorem dX11_gale_2 : decode cX11_gale 2 = .ok (.bipush 99, 2) := by decide +kernel
theorem dX11_gale_4 : decode cX11_gale 4 = .ok (.invokestatic 197, 3) := by decide +kernel
theorem dX11_gale_7 : decode cX11_gale 7 = .ok (.ifCond .ne 6, 3) := by decide +kernel
theorem dX11_gale_10 : decode cX11_gale 10 = .ok (.bipush (-3), 2) := by decide +kernel
theorem dX11_gale_12 : decode cX11_gale 12 = .ok (.ireturn, 1) := by decide +kernel
theorem dX11_gale_13 : decode cX11_gale 13 = .ok (.aload_n 0, 1) := by decide +kernel
theorem dX11_gale_14 : decode cX11_gale 14 = .ok (.getfield 49, 3) := by decide +kernel
theorem dX11_gale_17 : decode cX11_gale 17 = .ok (.getfield 139, 3) := by decide +kernel
theorem dX11_gale_20 : decode cX11_gale 20 = .ok (.istore_n 2, 1) := by decide +kernel
theorem dX11_gale_21 : decode cX11_gale 21 = .ok (.aload_n 0, 1) := by decide +kernel
theorem dX11_gale_22 : decode cX11_gale 22 = .ok (.sipush 2000, 3) := by decide +kernel
theorem dX11_gale_25 : decode cX11_gale 25 = .ok (.iload_n 1, 1) := by decide +kernel
theorem dX11_gale_26 : decode cX11_gale 26 = .ok (.iadd, 1) := by decide +kernel
theorem dX11_gale_27 : decode cX11_gale 27 = .ok (.invokevirtual 212, 3) := by decide +kernel
theorem dX11_gale_30 : decode cX11_gale 30 = .ok (.pop, 1) := by decide +kernel
theorem dX11_gale_31 : decode cX11_gale 31 = .ok (.iload_n 2, 1) := by decide +kernel
theorem dX11_gale_32 : decode cX11_gale 32 = .ok (.ireturn, 1) := by decide +kernel
theorem dX11_hours_0 : decode cX11_hours 0 = .ok (.iload_n 1, 1) := by decide +kernel
theorem dX11_hours_1 : decode cX11_hours 1 = .ok (.iconst 1, 1) := by decide +kernel
theorem dX11_hours_2 : decode cX11_hours 2 = .ok (.bipush 48, 2) := by decide +kernel
theorem dX11_hours_4 : decode cX11_hours 4 = .ok (.invokestatic 197, 3) := by decide +kernel
theorem dX11_hours_7 : decode cX11_hours 7 = .ok (.ifCond .ne 6, 3) := by decide +kernel
theorem dX11_hours_10 : decode cX11_hours 10 = .ok (.bipush (-3), 2) := by decide +kernel
theorem dX11_hours_12 : decode cX11_hours 12 = .ok (.ireturn, 1) := by decide +kernel
theorem dX11_hours_13 : decode cX11_hours 13 = .ok (.aload_n 0, 1) := by decide +kernel
theorem dX11_hours_14 : decode cX11_hours 14 = .ok (.getfield 59, 3) := by decide +kernel
theorem dX11_hours_17 : decode cX11_hours 17 = .ok (.aload_n 0, 1) := by decide +kernel
theorem dX11_hours_18 : decode cX11_hours 18 = .ok (.getfield 49, 3) := by decide +kernel
theorem dX11_hours_21 : decode cX11_hours 21 = .ok (.invokevirtual 208, 3) := by decide +kernel
theorem dX11_hours_24 : decode cX11_hours 24 = .ok (.iconst 0, 1) := by decide +kernel
theorem dX11_hours_25 : decode cX11_hours 25 = .ok (.istore_n 2, 1) := by decide +kernel
theorem dX11_hours_26 : decode cX11_hours 26 = .ok (.iconst 0, 1) := by decide +kernel
theorem dX11_hours_27 : decode cX11_hours 27 = .ok (.istore_n 3, 1) := by decide +kernel
theorem dX11_hours_28 : decode cX11_hours 28 = .ok (.iload_n 3, 1) := by decide +kernel
theorem dX11_hours_29 : decode cX11_hours 29 = .ok (.iload_n 1, 1) := by decide +kernel
theorem dX11_hours_30 : decode cX11_hours 30 = .ok (.if_icmp .ge 27, 3) := by decide +kernel
theorem dX11_hours_33 : decode cX11_hours 33 = .ok (.iload_n 2, 1) := by decide +kernel
theorem dX11_hours_34 : decode cX11_hours 34 = .ok (.aload_n 0, 1) := by decide +kernel
theorem dX11_hours_35 : decode cX11_hours 35 = .ok (.getfield 49, 3) := by decide +kernel
theorem dX11_hours_38 : decode cX11_hours 38 = .ok (.aload_n 0, 1) := by decide +kernel
theorem dX11_hours_39 : decode cX11_hours 39 = .ok (.getfield 26, 3) := by decide +kernel
theorem dX11_hours_42 : decode cX11_hours 42 = .ok (.aload_n 0, 1) := by decide +kernel
theorem dX11_hours_43 : decode cX11_hours 43 = .ok (.getfield 42, 3) := by decide +kernel
theorem dX11_hours_46 : decode cX11_hours 46 = .ok (.invokevirtual 218, 3) := by decide +kernel
theorem dX11_hours_49 : decode cX11_hours 49 = .ok (.iadd, 1) := by decide +kernel
theorem dX11_hours_50 : decode cX11_hours 50 = .ok (.istore_n 2, 1) := by decide +kernel
theorem dX11_hours_51 : decode cX11_hours 51 = .ok (.iinc 3 1, 3) := by decide +kernel
theorem dX11_hours_54 : decode cX11_hours 54 = .ok (.goto (-26), 3) := by decide +kernel
theorem dX11_hours_57 : decode cX11_hours 57 = .ok (.iload_n 2, 1) := by decide +kernel
theorem dX11_hours_58 : decode cX11_hours 58 = .ok (.ireturn, 1) := by decide +kernel
theorem dX11_undo_0 : decode cX11_undo 0 = .ok (.iload_n 1, 1) := by decide +kernel
theorem dX11_undo_1 : decode cX11_undo 1 = .ok (.iconst 1, 1) := by decide +kernel
theorem dX11_undo_2 : decode cX11_undo 2 = .ok (.aload_n 0, 1) := by decide +kernel
theorem dX11_undo_3 : decode cX11_undo 3 = .ok (.getfield 59, 3) := by decide +kernel
theorem dX11_undo_6 : decode cX11_undo 6 = .ok (.getfield 222, 3) := by decide +kernel
theorem dX11_undo_9 : decode cX11_undo 9 = .ok (.invokestatic 197, 3) := by decide +kernel
theorem dX11_undo_12 : decode cX11_undo 12 = .ok (.ifCond .ne 6, 3) := by decide +kernel
theorem dX11_undo_15 : decode cX11_undo 15 = .ok (.bipush (-3), 2) := by decide +kernel
theorem dX11_undo_17 : decode cX11_undo 17 = .ok (.ireturn, 1) := by decide +kernel
theorem dX11_undo_18 : decode cX11_undo 18 = .ok (.aload_n 0, 1) := by decide +kernel
theorem dX11_undo_19 : decode cX11_undo 19 = .ok (.getfield 59, 3) := by decide +kernel
theorem dX11_undo_22 : decode cX11_undo 22 = .ok (.aload_n 0, 1) := by decide +kernel
theorem dX11_undo_23 : decode cX11_undo 23 = .ok (.getfield 49, 3) := by decide +kernel
theorem dX11_undo_26 : decode cX11_undo 26 = .ok (.iload_n 1, 1) := by decide +kernel
theorem dX11_undo_27 : decode cX11_undo 27 = .ok (.invokevirtual 225, 3) := by decide +kernel
theorem dX11_undo_30 : decode cX11_undo 30 = .ok (.aload_n 0, 1) := by decide +kernel
theorem dX11_undo_31 : decode cX11_undo 31 = .ok (.getfield 59, 3) := by decide +kernel
theorem dX11_undo_34 : decode cX11_undo 34 = .ok (.getfield 222, 3) := by decide +kernel
theorem dX11_undo_37 : decode cX11_undo 37 = .ok (.ireturn, 1) := by decide +kernel
theorem dX11_judge_0 : decode cX11_judge 0 = .ok (.aload_n 0, 1) := by decide +kernel
theorem dX11_judge_1 : decode cX11_judge 1 = .ok (.iload_n 1, 1) := by decide +kernel
theorem dX11_judge_2 : decode cX11_judge 2 = .ok (.invokevirtual 229, 3) := by decide +kernel
theorem dX11_judge_5 : decode cX11_judge 5 = .ok (.ifCond .eq 12, 3) := by decide +kernel
theorem dX11_judge_8 : decode cX11_judge 8 = .ok (.iload_n 2, 1) := by decide +kernel
theorem dX11_judge_9 : decode cX11_judge 9 = .ok (.iconst 0, 1) := by decide +kernel
theorem dX11_judge_10 : decode cX11_judge 10 = .ok (.iconst 3, 1) := by decide +kernel
theorem dX11_judge_11 : decode cX11_judge 11 = .ok (.invokestatic 197, 3) := by decide +kernel
theorem dX11_judge_14 : decode cX11_judge 14 = .ok (.ifCond .ne 6, 3) := by decide +kernel
theorem dX11_judge_17 : decode cX11_judge 17 = .ok (.bipush (-2), 2) := by decide +kernel
theorem dX11_judge_19 : decode cX11_judge 19 = .ok (.ireturn, 1) := by decide +kernel
theorem dX11_judge_20 : decode cX11_judge 20 = .ok (.aload_n 0, 1) := by decide +kernel
theorem dX11_judge_21 : decode cX11_judge 21 = .ok (.getfield 81, 3) := by decide +kernel
theorem dX11_judge_24 : decode cX11_judge 24 = .ok (.iload_n 1, 1) := by decide +kernel
theorem dX11_judge_25 : decode cX11_judge 25 = .ok (.aaload, 1) := by decide +kernel
theorem dX11_judge_26 : decode cX11_judge 26 = .ok (.astore_n 3, 1) := by decide +kernel
theorem dX11_judge_27 : decode cX11_judge 27 = .ok (.aload_n 3, 1) := by decide +kernel
theorem dX11_judge_28 : decode cX11_judge 28 = .ok (.invokevirtual 232, 3) := by decide +kernel
theorem dX11_judge_31 : decode cX11_judge 31 = .ok (.ifCond .eq 6, 3) := by decide +kernel
theorem dX11_judge_34 : decode cX11_judge 34 = .ok (.bipush (-6), 2) := by decide +kernel
theorem dX11_judge_36 : decode cX11_judge 36 = .ok (.ireturn, 1) := by decide +kernel
theorem dX11_judge_37 : decode cX11_judge 37 = .ok (.aload_n 0, 1) := by decide +kernel
theorem dX11_judge_38 : decode cX11_judge 38 = .ok (.getfield 53, 3) := by decide +kernel
theorem dX11_judge_41 : decode cX11_judge 41 = .ok (.aload_n 0, 1) := by decide +kernel
theorem dX11_judge_42 : decode cX11_judge 42 = .ok (.getfield 49, 3) := by decide +kernel
theorem dX11_judge_45 : decode cX11_judge 45 = .ok (.invokevirtual 236, 3) := by decide +kernel
theorem dX11_judge_48 : decode cX11_judge 48 = .ok (.aload_n 0, 1) := by decide +kernel
theorem dX11_judge_49 : decode cX11_judge 49 = .ok (.getfield 53, 3) := by decide +kernel
theorem dX11_judge_52 : decode cX11_judge 52 = .ok (.aload_n 3, 1) := by decide +kernel
theorem dX11_judge_53 : decode cX11_judge 53 = .ok (.aload_n 0, 1) := by decide +kernel
theorem dX11_judge_54 : decode cX11_judge 54 = .ok (.getfield 26, 3) := by decide +kernel
theorem dX11_judge_57 : decode cX11_judge 57 = .ok (.aload_n 0, 1) := by decide +kernel
theorem dX11_judge_58 : decode cX11_judge 58 = .ok (.getfield 42, 3) := by decide +kernel
theorem dX11_judge_61 : decode cX11_judge 61 = .ok (.invokevirtual 238, 3) := by decide +kernel
theorem dX11_judge_64 : decode cX11_judge 64 = .ok (.istore 4, 2) := by decide +kernel
theorem dX11_judge_66 : decode cX11_judge 66 = .ok (.iload 4, 2) := by decide +kernel
theorem dX11_judge_68 : decode cX11_judge 68 = .ok (.aload_n 3, 1) := by decide +kernel
theorem dX11_judge_69 : decode cX11_judge 69 = .ok (.getfield 242, 3) := by decide +kernel
theorem dX11_judge_72 : decode cX11_judge 72 = .ok (.if_icmp .ne 7, 3) := by decide +kernel
theorem dX11_judge_75 : decode cX11_judge 75 = .ok (.iconst 1, 1) := by decide +kernel
theorem dX11_judge_76 : decode cX11_judge 76 = .ok (.goto 4, 3) := by decide +kernel
theorem dX11_judge_79 : decode cX11_judge 79 = .ok (.iconst 0, 1) := by decide +kernel
theorem dX11_judge_80 : decode cX11_judge 80 = .ok (.istore 5, 2) := by decide +kernel
theorem dX11_judge_82 : decode cX11_judge 82 = .ok (.iload_n 2, 1) := by decide +kernel
theorem dX11_judge_83 : decode cX11_judge 83 = .ok (.tableswitch 77 0 2 #[25, 37, 69], 25) := by decide +kernel
theorem dX11_judge_108 : decode cX11_judge 108 = .ok (.iload 5, 2) := by decide +kernel
theorem dX11_judge_110 : decode cX11_judge 110 = .ok (.ifCond .eq 7, 3) := by decide +kernel
theorem dX11_judge_113 : decode cX11_judge 113 = .ok (.iconst (-1), 1) := by decide +kernel
theorem dX11_judge_114 : decode cX11_judge 114 = .ok (.goto 5, 3) := by decide +kernel
theorem dX11_judge_117 : decode cX11_judge 117 = .ok (.iload 4, 2) := by decide +kernel
theorem dX11_judge_119 : decode cX11_judge 119 = .ok (.ireturn, 1) := by decide +kernel
theorem dX11_judge_120 : decode cX11_judge 120 = .ok (.iload 5, 2) := by decide +kernel
theorem dX11_judge_122 : decode cX11_judge 122 = .ok (.ifCond .eq 7, 3) := by decide +kernel
theorem dX11_judge_125 : decode cX11_judge 125 = .ok (.iconst 0, 1) := by decide +kernel
theorem dX11_judge_126 : decode cX11_judge 126 = .ok (.goto 25, 3) := by decide +kernel
theorem dX11_judge_129 : decode cX11_judge 129 = .ok (.aload_n 0, 1) := by decide +kernel
theorem dX11_judge_130 : decode cX11_judge 130 = .ok (.getfield 53, 3) := by decide +kernel
theorem dX11_judge_133 : decode cX11_judge 133 = .ok (.aload_n 3, 1) := by decide +kernel
theorem dX11_judge_134 : decode cX11_judge 134 = .ok (.getfield 243, 3) := by decide +kernel
theorem dX11_judge_137 : decode cX11_judge 137 = .ok (.iload 4, 2) := by decide +kernel
theorem dX11_judge_139 : decode cX11_judge 139 = .ok (.laload, 1) := by decide +kernel
theorem dX11_judge_140 : decode cX11_judge 140 = .ok (.aload_n 0, 1) := by decide +kernel
theorem dX11_judge_141 : decode cX11_judge 141 = .ok (.getfield 26, 3) := by decide +kernel
theorem dX11_judge_144 : decode cX11_judge 144 = .ok (.aload_n 0, 1) := by decide +kernel
theorem dX11_judge_145 : decode cX11_judge 145 = .ok (.getfield 42, 3) := by decide +kernel
theorem dX11_judge_148 : decode cX11_judge 148 = .ok (.invokevirtual 247, 3) := by decide +kernel
theorem dX11_judge_151 : decode cX11_judge 151 = .ok (.ireturn, 1) := by decide +kernel
theorem dX11_judge_152 : decode cX11_judge 152 = .ok (.aload_n 0, 1) := by decide +kernel
theorem dX11_judge_153 : decode cX11_judge 153 = .ok (.getfield 53, 3) := by decide +kernel
theorem dX11_judge_156 : decode cX11_judge 156 = .ok (.getfield 136, 3) := by decide +kernel
theorem dX11_judge_159 : decode cX11_judge 159 = .ok (.ireturn, 1) := by decide +kernel
theorem dX11_judge_160 : decode cX11_judge 160 = .ok (.aload_n 0, 1) := by decide +kernel
theorem dX11_judge_161 : decode cX11_judge 161 = .ok (.getfield 53, 3) := by decide +kernel
theorem dX11_judge_164 : decode cX11_judge 164 = .ok (.aload_n 0, 1) := by decide +kernel
theorem dX11_judge_165 : decode cX11_judge 165 = .ok (.getfield 26, 3) := by decide +kernel
theorem dX11_judge_168 : decode cX11_judge 168 = .ok (.invokevirtual 251, 3) := by decide +kernel
theorem dX11_judge_171 : decode cX11_judge 171 = .ok (.ireturn, 1) := by decide +kernel
theorem dX11_perform_0 : decode cX11_perform 0 = .ok (.aload_n 0, 1) := by decide +kernel
theorem dX11_perform_1 : decode cX11_perform 1 = .ok (.iload_n 1, 1) := by decide +kernel
theorem dX11_perform_2 : decode cX11_perform 2 = .ok (.invokevirtual 229, 3) := by decide +kernel
theorem dX11_perform_5 : decode cX11_perform 5 = .ok (.ifCond .ne 6, 3) := by decide +kernel
theorem dX11_perform_8 : decode cX11_perform 8 = .ok (.bipush (-2), 2) := by decide +kernel
theorem dX11_perform_10 : decode cX11_perform 10 = .ok (.ireturn, 1) := by decide +kernel
theorem dX11_perform_11 : decode cX11_perform 11 = .ok (.aload_n 0, 1) := by decide +kernel
theorem dX11_perform_12 : decode cX11_perform 12 = .ok (.getfield 81, 3) := by decide +kernel
theorem dX11_perform_15 : decode cX11_perform 15 = .ok (.iload_n 1, 1) := by decide +kernel
theorem dX11_perform_16 : decode cX11_perform 16 = .ok (.aaload, 1) := by decide +kernel
theorem dX11_perform_17 : decode cX11_perform 17 = .ok (.invokevirtual 232, 3) := by decide +kernel
theorem dX11_perform_20 : decode cX11_perform 20 = .ok (.ifCond .eq 6, 3) := by decide +kernel
theorem dX11_perform_23 : decode cX11_perform 23 = .ok (.bipush (-6), 2) := by decide +kernel
theorem dX11_perform_25 : decode cX11_perform 25 = .ok (.ireturn, 1) := by decide +kernel
theorem dX11_perform_26 : decode cX11_perform 26 = .ok (.aload_n 0, 1) := by decide +kernel
theorem dX11_perform_27 : decode cX11_perform 27 = .ok (.getfield 53, 3) := by decide +kernel
theorem dX11_perform_30 : decode cX11_perform 30 = .ok (.aload_n 0, 1) := by decide +kernel
theorem dX11_perform_31 : decode cX11_perform 31 = .ok (.getfield 49, 3) := by decide +kernel
theorem dX11_perform_34 : decode cX11_perform 34 = .ok (.invokevirtual 236, 3) := by decide +kernel
theorem dX11_perform_37 : decode cX11_perform 37 = .ok (.aload_n 0, 1) := by decide +kernel
theorem dX11_perform_38 : decode cX11_perform 38 = .ok (.getfield 53, 3) := by decide +kernel
theorem dX11_perform_41 : decode cX11_perform 41 = .ok (.aload_n 0, 1) := by decide +kernel
theorem dX11_perform_42 : decode cX11_perform 42 = .ok (.getfield 81, 3) := by decide +kernel
theorem dX11_perform_45 : decode cX11_perform 45 = .ok (.iload_n 1, 1) := by decide +kernel
theorem dX11_perform_46 : decode cX11_perform 46 = .ok (.aaload, 1) := by decide +kernel
theorem dX11_perform_47 : decode cX11_perform 47 = .ok (.aload_n 0, 1) := by decide +kernel
theorem dX11_perform_48 : decode cX11_perform 48 = .ok (.getfield 26, 3) := by decide +kernel
theorem dX11_perform_51 : decode cX11_perform 51 = .ok (.aload_n 0, 1) := by decide +kernel
theorem dX11_perform_52 : decode cX11_perform 52 = .ok (.getfield 42, 3) := by decide +kernel
theorem dX11_perform_55 : decode cX11_perform 55 = .ok (.invokevirtual 238, 3) := by decide +kernel
theorem dX11_perform_58 : decode cX11_perform 58 = .ok (.istore_n 2, 1) := by decide +kernel
theorem dX11_perform_59 : decode cX11_perform 59 = .ok (.iload_n 2, 1) := by decide +kernel
theorem dX11_perform_60 : decode cX11_perform 60 = .ok (.ifCond .le 25, 3) := by decide +kernel
theorem dX11_perform_63 : decode cX11_perform 63 = .ok (.aload_n 0, 1) := by decide +kernel
theorem dX11_perform_64 : decode cX11_perform 64 = .ok (.getfield 59, 3) := by decide +kernel
theorem dX11_perform_67 : decode cX11_perform 67 = .ok (.aload_n 0, 1) := by decide +kernel
theorem dX11_perform_68 : decode cX11_perform 68 = .ok (.getfield 49, 3) := by decide +kernel
theorem dX11_perform_71 : decode cX11_perform 71 = .ok (.invokevirtual 208, 3) := by decide +kernel
theorem dX11_perform_74 : decode cX11_perform 74 = .ok (.aload_n 0, 1) := by decide +kernel
theorem dX11_perform_75 : decode cX11_perform 75 = .ok (.getfield 49, 3) := by decide +kernel
theorem dX11_perform_78 : decode cX11_perform 78 = .ok (.aload_n 0, 1) := by decide +kernel
theorem dX11_perform_79 : decode cX11_perform 79 = .ok (.getfield 53, 3) := by decide +kernel
theorem dX11_perform_82 : decode cX11_perform 82 = .ok (.invokevirtual 236, 3) := by decide +kernel
theorem dX11_perform_85 : decode cX11_perform 85 = .ok (.iload_n 2, 1) := by decide +kernel
theorem dX11_perform_86 : decode cX11_perform 86 = .ok (.ireturn, 1) := by decide +kernel
theorem dX11_days_0 : decode cX11_days 0 = .ok (.iload_n 2, 1) := by decide +kernel
theorem dX11_days_1 : decode cX11_days 1 = .ok (.iconst 1, 1) := by decide +kernel
theorem dX11_days_2 : decode cX11_days 2 = .ok (.bipush 30, 2) := by decide +kernel
theorem dX11_days_4 : decode cX11_days 4 = .ok (.invokestatic 197, 3) := by decide +kernel
theorem dX11_days_7 : decode cX11_days 7 = .ok (.ifCond .ne 6, 3) := by decide +kernel
theorem dX11_days_10 : decode cX11_days 10 = .ok (.bipush (-3), 2) := by decide +kernel
theorem dX11_days_12 : decode cX11_days 12 = .ok (.ireturn, 1) := by decide +kernel
theorem dX11_days_13 : decode cX11_days 13 = .ok (.aload_n 0, 1) := by decide +kernel
theorem dX11_days_14 : decode cX11_days 14 = .ok (.getfield 53, 3) := by decide +kernel
theorem dX11_days_17 : decode cX11_days 17 = .ok (.aload_n 0, 1) := by decide +kernel
theorem dX11_days_18 : decode cX11_days 18 = .ok (.getfield 49, 3) := by decide +kernel
theorem dX11_days_21 : decode cX11_days 21 = .ok (.invokevirtual 236, 3) := by decide +kernel
theorem dX11_days_24 : decode cX11_days 24 = .ok (.aload_n 0, 1) := by decide +kernel
theorem dX11_days_25 : decode cX11_days 25 = .ok (.getfield 53, 3) := by decide +kernel
theorem dX11_days_28 : decode cX11_days 28 = .ok (.iload_n 1, 1) := by decide +kernel
theorem dX11_days_29 : decode cX11_days 29 = .ok (.putfield 205, 3) := by decide +kernel
theorem dX11_days_32 : decode cX11_days 32 = .ok (.iconst 0, 1) := by decide +kernel
theorem dX11_days_33 : decode cX11_days 33 = .ok (.istore_n 3, 1) := by decide +kernel
theorem dX11_days_34 : decode cX11_days 34 = .ok (.iconst 0, 1) := by decide +kernel
theorem dX11_days_35 : decode cX11_days 35 = .ok (.istore 4, 2) := by decide +kernel
theorem dX11_days_37 : decode cX11_days 37 = .ok (.iload 4, 2) := by decide +kernel
theorem dX11_days_39 : decode cX11_days 39 = .ok (.iload_n 2, 1) := by decide +kernel
theorem dX11_days_40 : decode cX11_days 40 = .ok (.if_icmp .ge 30, 3) := by decide +kernel
theorem dX11_days_43 : decode cX11_days 43 = .ok (.aload_n 0, 1) := by decide +kernel
theorem dX11_days_44 : decode cX11_days 44 = .ok (.getfield 53, 3) := by decide +kernel
theorem dX11_days_47 : decode cX11_days 47 = .ok (.aload_n 0, 1) := by decide +kernel
theorem dX11_days_48 : decode cX11_days 48 = .ok (.getfield 26, 3) := by decide +kernel
theorem dX11_days_51 : decode cX11_days 51 = .ok (.aload_n 0, 1) := by decide +kernel
theorem dX11_days_52 : decode cX11_days 52 = .ok (.getfield 42, 3) := by decide +kernel
theorem dX11_days_55 : decode cX11_days 55 = .ok (.invokevirtual 255, 3) := by decide +kernel
theorem dX11_days_58 : decode cX11_days 58 = .ok (.ifCond .eq 6, 3) := by decide +kernel
theorem dX11_days_61 : decode cX11_days 61 = .ok (.iinc 3 1, 3) := by decide +kernel
theorem dX11_days_64 : decode cX11_days 64 = .ok (.iinc 4 1, 3) := by decide +kernel
theorem dX11_days_67 : decode cX11_days 67 = .ok (.goto (-30), 3) := by decide +kernel
theorem dX11_days_70 : decode cX11_days 70 = .ok (.iload_n 3, 1) := by decide +kernel
theorem dX11_days_71 : decode cX11_days 71 = .ok (.ifCond .le 25, 3) := by decide +kernel
theorem dX11_days_74 : decode cX11_days 74 = .ok (.aload_n 0, 1) := by decide +kernel
theorem dX11_days_75 : decode cX11_days 75 = .ok (.getfield 59, 3) := by decide +kernel
theorem dX11_days_78 : decode cX11_days 78 = .ok (.aload_n 0, 1) := by decide +kernel
theorem dX11_days_79 : decode cX11_days 79 = .ok (.getfield 49, 3) := by decide +kernel
theorem dX11_days_82 : decode cX11_days 82 = .ok (.invokevirtual 208, 3) := by decide +kernel
theorem dX11_days_85 : decode cX11_days 85 = .ok (.aload_n 0, 1) := by decide +kernel
theorem dX11_days_86 : decode cX11_days 86 = .ok (.getfield 49, 3) := by decide +kernel
theorem dX11_days_89 : decode cX11_days 89 = .ok (.aload_n 0, 1) := by decide +kernel
theorem dX11_days_90 : decode cX11_days 90 = .ok (.getfield 53, 3) := by decide +kernel
theorem dX11_days_93 : decode cX11_days 93 = .ok (.invokevirtual 236, 3) := by decide +kernel
theorem dX11_days_96 : decode cX11_days 96 = .ok (.iload_n 3, 1) := by decide +kernel
theorem dX11_days_97 : decode cX11_days 97 = .ok (.ireturn, 1) := by decide +kernel
theorem dX11_comesIn_0 : decode cX11_comesIn 0 = .ok (.aload_n 0, 1) := by decide +kernel
theorem dX11_comesIn_1 : decode cX11_comesIn 1 = .ok (.iload_n 1, 1) := by decide +kernel
theorem dX11_comesIn_2 : decode cX11_comesIn 2 = .ok (.invokevirtual 182, 3) := by decide +kernel
theorem dX11_comesIn_5 : decode cX11_comesIn 5 = .ok (.ifCond .eq 11, 3) := by decide +kernel
theorem dX11_comesIn_8 : decode cX11_comesIn 8 = .ok (.aload_n 0, 1) := by decide +kernel
theorem dX11_comesIn_9 : decode cX11_comesIn 9 = .ok (.iload_n 2, 1) := by decide +kernel
theorem dX11_comesIn_10 : decode cX11_comesIn 10 = .ok (.invokevirtual 194, 3) := by decide +kernel
theorem dX11_comesIn_13 : decode cX11_comesIn 13 = .ok (.ifCond .ne 6, 3) := by decide +kernel
theorem dX11_comesIn_16 : decode cX11_comesIn 16 = .ok (.bipush (-2), 2) := by decide +kernel
theorem dX11_comesIn_18 : decode cX11_comesIn 18 = .ok (.ireturn, 1) := by decide +kernel
theorem dX11_comesIn_19 : decode cX11_comesIn 19 = .ok (.aload_n 0, 1) := by decide +kernel
theorem dX11_comesIn_20 : decode cX11_comesIn 20 = .ok (.getfield 53, 3) := by decide +kernel
theorem dX11_comesIn_23 : decode cX11_comesIn 23 = .ok (.aload_n 0, 1) := by decide +kernel
theorem dX11_comesIn_24 : decode cX11_comesIn 24 = .ok (.getfield 49, 3) := by decide +kernel
theorem dX11_comesIn_27 : decode cX11_comesIn 27 = .ok (.invokevirtual 236, 3) := by decide +kernel
theorem dX11_comesIn_30 : decode cX11_comesIn 30 = .ok (.iconst 0, 1) := by decide +kernel
theorem dX11_comesIn_31 : decode cX11_comesIn 31 = .ok (.istore_n 3, 1) := by decide +kernel
theorem dX11_comesIn_32 : decode cX11_comesIn 32 = .ok (.iload_n 3, 1) := by decide +kernel
theorem dX11_comesIn_33 : decode cX11_comesIn 33 = .ok (.bipush 99, 2) := by decide +kernel
theorem dX11_comesIn_35 : decode cX11_comesIn 35 = .ok (.if_icmp .gt 44, 3) := by decide +kernel
theorem dX11_comesIn_38 : decode cX11_comesIn 38 = .ok (.aload_n 0, 1) := by decide +kernel
theorem dX11_comesIn_39 : decode cX11_comesIn 39 = .ok (.getfield 53, 3) := by decide +kernel
theorem dX11_comesIn_42 : decode cX11_comesIn 42 = .ok (.getfield 185, 3) := by decide +kernel
theorem dX11_comesIn_45 : decode cX11_comesIn 45 = .ok (.iload_n 1, 1) := by decide +kernel
theorem dX11_comesIn_46 : decode cX11_comesIn 46 = .ok (.iaload, 1) := by decide +kernel
theorem dX11_comesIn_47 : decode cX11_comesIn 47 = .ok (.iload_n 2, 1) := by decide +kernel
theorem dX11_comesIn_48 : decode cX11_comesIn 48 = .ok (.ishr, 1) := by decide +kernel
theorem dX11_comesIn_49 : decode cX11_comesIn 49 = .ok (.iconst 1, 1) := by decide +kernel
theorem dX11_comesIn_50 : decode cX11_comesIn 50 = .ok (.iand, 1) := by decide +kernel
theorem dX11_comesIn_51 : decode cX11_comesIn 51 = .ok (.iconst 1, 1) := by decide +kernel
theorem dX11_comesIn_52 : decode cX11_comesIn 52 = .ok (.if_icmp .ne 5, 3) := by decide +kernel
theorem dX11_comesIn_55 : decode cX11_comesIn 55 = .ok (.iload_n 3, 1) := by decide +kernel
theorem dX11_comesIn_56 : decode cX11_comesIn 56 = .ok (.ireturn, 1) := by decide +kernel
theorem dX11_comesIn_57 : decode cX11_comesIn 57 = .ok (.aload_n 0, 1) := by decide +kernel
theorem dX11_comesIn_58 : decode cX11_comesIn 58 = .ok (.getfield 53, 3) := by decide +kernel
theorem dX11_comesIn_61 : decode cX11_comesIn 61 = .ok (.aload_n 0, 1) := by decide +kernel
theorem dX11_comesIn_62 : decode cX11_comesIn 62 = .ok (.getfield 26, 3) := by decide +kernel
theorem dX11_comesIn_65 : decode cX11_comesIn 65 = .ok (.aload_n 0, 1) := by decide +kernel
theorem dX11_comesIn_66 : decode cX11_comesIn 66 = .ok (.getfield 42, 3) := by decide +kernel
theorem dX11_comesIn_69 : decode cX11_comesIn 69 = .ok (.invokevirtual 218, 3) := by decide +kernel
theorem dX11_comesIn_72 : decode cX11_comesIn 72 = .ok (.pop, 1) := by decide +kernel
theorem dX11_comesIn_73 : decode cX11_comesIn 73 = .ok (.iinc 3 1, 3) := by decide +kernel
theorem dX11_comesIn_76 : decode cX11_comesIn 76 = .ok (.goto (-44), 3) := by decide +kernel
theorem dX11_comesIn_79 : decode cX11_comesIn 79 = .ok (.iconst (-1), 1) := by decide +kernel
theorem dX11_comesIn_80 : decode cX11_comesIn 80 = .ok (.ireturn, 1) := by decide +kernel
theorem dX11_hearsIn_0 : decode cX11_hearsIn 0 = .ok (.aload_n 0, 1) := by decide +kernel
theorem dX11_hearsIn_1 : decode cX11_hearsIn 1 = .ok (.iload_n 1, 1) := by decide +kernel
theorem dX11_hearsIn_2 : decode cX11_hearsIn 2 = .ok (.invokevirtual 182, 3) := by decide +kernel
theorem dX11_hearsIn_5 : decode cX11_hearsIn 5 = .ok (.ifCond .eq 11, 3) := by decide +kernel
theorem dX11_hearsIn_8 : decode cX11_hearsIn 8 = .ok (.aload_n 0, 1) := by decide +kernel
theorem dX11_hearsIn_9 : decode cX11_hearsIn 9 = .ok (.iload_n 2, 1) := by decide +kernel
theorem dX11_hearsIn_10 : decode cX11_hearsIn 10 = .ok (.invokevirtual 146, 3) := by decide +kernel
theorem dX11_hearsIn_13 : decode cX11_hearsIn 13 = .ok (.ifCond .ne 6, 3) := by decide +kernel
theorem dX11_hearsIn_16 : decode cX11_hearsIn 16 = .ok (.bipush (-2), 2) := by decide +kernel
theorem dX11_hearsIn_18 : decode cX11_hearsIn 18 = .ok (.ireturn, 1) := by decide +kernel
theorem dX11_hearsIn_19 : decode cX11_hearsIn 19 = .ok (.aload_n 0, 1) := by decide +kernel
theorem dX11_hearsIn_20 : decode cX11_hearsIn 20 = .ok (.getfield 53, 3) := by decide +kernel
theorem dX11_hearsIn_23 : decode cX11_hearsIn 23 = .ok (.aload_n 0, 1) := by decide +kernel
theorem dX11_hearsIn_24 : decode cX11_hearsIn 24 = .ok (.getfield 49, 3) := by decide +kernel
theorem dX11_hearsIn_27 : decode cX11_hearsIn 27 = .ok (.invokevirtual 236, 3) := by decide +kernel
theorem dX11_hearsIn_30 : decode cX11_hearsIn 30 = .ok (.iconst 0, 1) := by decide +kernel
theorem dX11_hearsIn_31 : decode cX11_hearsIn 31 = .ok (.istore_n 3, 1) := by decide +kernel
theorem dX11_hearsIn_32 : decode cX11_hearsIn 32 = .ok (.iload_n 3, 1) := by decide +kernel
theorem dX11_hearsIn_33 : decode cX11_hearsIn 33 = .ok (.bipush 99, 2) := by decide +kernel
theorem dX11_hearsIn_35 : decode cX11_hearsIn 35 = .ok (.if_icmp .gt 44, 3) := by decide +kernel
theorem dX11_hearsIn_38 : decode cX11_hearsIn 38 = .ok (.aload_n 0, 1) := by decide +kernel
theorem dX11_hearsIn_39 : decode cX11_hearsIn 39 = .ok (.getfield 53, 3) := by decide +kernel
theorem dX11_hearsIn_42 : decode cX11_hearsIn 42 = .ok (.getfield 156, 3) := by decide +kernel
theorem dX11_hearsIn_45 : decode cX11_hearsIn 45 = .ok (.iload_n 2, 1) := by decide +kernel
theorem dX11_hearsIn_46 : decode cX11_hearsIn 46 = .ok (.iaload, 1) := by decide +kernel
theorem dX11_hearsIn_47 : decode cX11_hearsIn 47 = .ok (.iload_n 1, 1) := by decide +kernel
theorem dX11_hearsIn_48 : decode cX11_hearsIn 48 = .ok (.ishr, 1) := by decide +kernel
theorem dX11_hearsIn_49 : decode cX11_hearsIn 49 = .ok (.iconst 1, 1) := by decide +kernel
theorem dX11_hearsIn_50 : decode cX11_hearsIn 50 = .ok (.iand, 1) := by decide +kernel
theorem dX11_hearsIn_51 : decode cX11_hearsIn 51 = .ok (.iconst 1, 1) := by decide +kernel
theorem dX11_hearsIn_52 : decode cX11_hearsIn 52 = .ok (.if_icmp .ne 5, 3) := by decide +kernel
theorem dX11_hearsIn_55 : decode cX11_hearsIn 55 = .ok (.iload_n 3, 1) := by decide +kernel
theorem dX11_hearsIn_56 : decode cX11_hearsIn 56 = .ok (.ireturn, 1) := by decide +kernel
theorem dX11_hearsIn_57 : decode cX11_hearsIn 57 = .ok (.aload_n 0, 1) := by decide +kernel
theorem dX11_hearsIn_58 : decode cX11_hearsIn 58 = .ok (.getfield 53, 3) := by decide +kernel
theorem dX11_hearsIn_61 : decode cX11_hearsIn 61 = .ok (.aload_n 0, 1) := by decide +kernel
theorem dX11_hearsIn_62 : decode cX11_hearsIn 62 = .ok (.getfield 26, 3) := by decide +kernel
theorem dX11_hearsIn_65 : decode cX11_hearsIn 65 = .ok (.aload_n 0, 1) := by decide +kernel
theorem dX11_hearsIn_66 : decode cX11_hearsIn 66 = .ok (.getfield 42, 3) := by decide +kernel
theorem dX11_hearsIn_69 : decode cX11_hearsIn 69 = .ok (.invokevirtual 218, 3) := by decide +kernel
theorem dX11_hearsIn_72 : decode cX11_hearsIn 72 = .ok (.pop, 1) := by decide +kernel
theorem dX11_hearsIn_73 : decode cX11_hearsIn 73 = .ok (.iinc 3 1, 3) := by decide +kernel
theorem dX11_hearsIn_76 : decode cX11_hearsIn 76 = .ok (.goto (-44), 3) := by decide +kernel
theorem dX11_hearsIn_79 : decode cX11_hearsIn 79 = .ok (.iconst (-1), 1) := by decide +kernel
theorem dX11_hearsIn_80 : decode cX11_hearsIn 80 = .ok (.ireturn, 1) := by decide +kernel
theorem dX11_heard_0 : decode cX11_heard 0 = .ok (.aload_n 0, 1) := by decide +kernel
theorem dX11_heard_1 : decode cX11_heard 1 = .ok (.iload_n 1, 1) := by decide +kernel
theorem dX11_heard_2 : decode cX11_heard 2 = .ok (.invokevirtual 182, 3) := by decide +kernel
theorem dX11_heard_5 : decode cX11_heard 5 = .ok (.ifCond .ne 6, 3) := by decide +kernel
theorem dX11_heard_8 : decode cX11_heard 8 = .ok (.bipush (-2), 2) := by decide +kernel
theorem dX11_heard_10 : decode cX11_heard 10 = .ok (.ireturn, 1) := by decide +kernel
theorem dX11_heard_11 : decode cX11_heard 11 = .ok (.iload_n 2, 1) := by decide +kernel
theorem dX11_heard_12 : decode cX11_heard 12 = .ok (.iconst 0, 1) := by decide +kernel
theorem dX11_heard_13 : decode cX11_heard 13 = .ok (.bipush 99, 2) := by decide +kernel
theorem dX11_heard_15 : decode cX11_heard 15 = .ok (.invokestatic 197, 3) := by decide +kernel
theorem dX11_heard_18 : decode cX11_heard 18 = .ok (.ifCond .ne 6, 3) := by decide +kernel
theorem dX11_heard_21 : decode cX11_heard 21 = .ok (.bipush (-3), 2) := by decide +kernel
theorem dX11_heard_23 : decode cX11_heard 23 = .ok (.ireturn, 1) := by decide +kernel
theorem dX11_heard_24 : decode cX11_heard 24 = .ok (.aload_n 0, 1) := by decide +kernel
theorem dX11_heard_25 : decode cX11_heard 25 = .ok (.iload_n 2, 1) := by decide +kernel
theorem dX11_heard_26 : decode cX11_heard 26 = .ok (.invokevirtual 259, 3) := by decide +kernel
theorem dX11_heard_29 : decode cX11_heard 29 = .ok (.aload_n 0, 1) := by decide +kernel
theorem dX11_heard_30 : decode cX11_heard 30 = .ok (.getfield 53, 3) := by decide +kernel
theorem dX11_heard_33 : decode cX11_heard 33 = .ok (.iload_n 1, 1) := by decide +kernel
theorem dX11_heard_34 : decode cX11_heard 34 = .ok (.invokevirtual 191, 3) := by decide +kernel
theorem dX11_heard_37 : decode cX11_heard 37 = .ok (.ireturn, 1) := by decide +kernel
theorem dX11_loudest_0 : decode cX11_loudest 0 = .ok (.iload_n 1, 1) := by decide +kernel
theorem dX11_loudest_1 : decode cX11_loudest 1 = .ok (.iconst 0, 1) := by decide +kernel
theorem dX11_loudest_2 : decode cX11_loudest 2 = .ok (.bipush 99, 2) := by decide +kernel
theorem dX11_loudest_4 : decode cX11_loudest 4 = .ok (.invokestatic 197, 3) := by decide +kernel
theorem dX11_loudest_7 : decode cX11_loudest 7 = .ok (.ifCond .ne 6, 3) := by decide +kernel
theorem dX11_loudest_10 : decode cX11_loudest 10 = .ok (.bipush (-3), 2) := by decide +kernel
theorem dX11_loudest_12 : decode cX11_loudest 12 = .ok (.ireturn, 1) := by decide +kernel
theorem dX11_loudest_13 : decode cX11_loudest 13 = .ok (.aload_n 0, 1) := by decide +kernel
theorem dX11_loudest_14 : decode cX11_loudest 14 = .ok (.iload_n 1, 1) := by decide +kernel
theorem dX11_loudest_15 : decode cX11_loudest 15 = .ok (.invokevirtual 259, 3) := by decide +kernel
theorem dX11_loudest_18 : decode cX11_loudest 18 = .ok (.iconst (-1), 1) := by decide +kernel
theorem dX11_loudest_19 : decode cX11_loudest 19 = .ok (.istore_n 2, 1) := by decide +kernel
theorem dX11_loudest_20 : decode cX11_loudest 20 = .ok (.iconst (-1), 1) := by decide +kernel
theorem dX11_loudest_21 : decode cX11_loudest 21 = .ok (.istore_n 3, 1) := by decide +kernel
theorem dX11_loudest_22 : decode cX11_loudest 22 = .ok (.iconst 0, 1) := by decide +kernel
theorem dX11_loudest_23 : decode cX11_loudest 23 = .ok (.istore 4, 2) := by decide +kernel
theorem dX11_loudest_25 : decode cX11_loudest 25 = .ok (.iload 4, 2) := by decide +kernel
theorem dX11_loudest_27 : decode cX11_loudest 27 = .ok (.aload_n 0, 1) := by decide +kernel
theorem dX11_loudest_28 : decode cX11_loudest 28 = .ok (.getfield 53, 3) := by decide +kernel
theorem dX11_loudest_31 : decode cX11_loudest 31 = .ok (.getfield 215, 3) := by decide +kernel
theorem dX11_loudest_34 : decode cX11_loudest 34 = .ok (.if_icmp .ge 35, 3) := by decide +kernel
theorem dX11_loudest_37 : decode cX11_loudest 37 = .ok (.aload_n 0, 1) := by decide +kernel
theorem dX11_loudest_38 : decode cX11_loudest 38 = .ok (.getfield 53, 3) := by decide +kernel
theorem dX11_loudest_41 : decode cX11_loudest 41 = .ok (.iload 4, 2) := by decide +kernel
theorem dX11_loudest_43 : decode cX11_loudest 43 = .ok (.invokevirtual 191, 3) := by decide +kernel
theorem dX11_loudest_46 : decode cX11_loudest 46 = .ok (.invokestatic 163, 3) := by decide +kernel
theorem dX11_loudest_49 : decode cX11_loudest 49 = .ok (.istore 5, 2) := by decide +kernel
theorem dX11_loudest_51 : decode cX11_loudest 51 = .ok (.iload 5, 2) := by decide +kernel
theorem dX11_loudest_53 : decode cX11_loudest 53 = .ok (.iload_n 3, 1) := by decide +kernel
theorem dX11_loudest_54 : decode cX11_loudest 54 = .ok (.if_icmp .le 9, 3) := by decide +kernel
theorem dX11_loudest_57 : decode cX11_loudest 57 = .ok (.iload 5, 2) := by decide +kernel
theorem dX11_loudest_59 : decode cX11_loudest 59 = .ok (.istore_n 3, 1) := by decide +kernel
theorem dX11_loudest_60 : decode cX11_loudest 60 = .ok (.iload 4, 2) := by decide +kernel
theorem dX11_loudest_62 : decode cX11_loudest 62 = .ok (.istore_n 2, 1) := by decide +kernel
theorem dX11_loudest_63 : decode cX11_loudest 63 = .ok (.iinc 4 1, 3) := by decide +kernel
theorem dX11_loudest_66 : decode cX11_loudest 66 = .ok (.goto (-41), 3) := by decide +kernel
theorem dX11_loudest_69 : decode cX11_loudest 69 = .ok (.iload_n 2, 1) := by decide +kernel
theorem dX11_loudest_70 : decode cX11_loudest 70 = .ok (.ireturn, 1) := by decide +kernel
theorem dX11_hearers_0 : decode cX11_hearers 0 = .ok (.aload_n 0, 1) := by decide +kernel
theorem dX11_hearers_1 : decode cX11_hearers 1 = .ok (.iload_n 1, 1) := by decide +kernel
theorem dX11_hearers_2 : decode cX11_hearers 2 = .ok (.invokevirtual 194, 3) := by decide +kernel
theorem dX11_hearers_5 : decode cX11_hearers 5 = .ok (.ifCond .ne 6, 3) := by decide +kernel
theorem dX11_hearers_8 : decode cX11_hearers 8 = .ok (.bipush (-2), 2) := by decide +kernel
theorem dX11_hearers_10 : decode cX11_hearers 10 = .ok (.ireturn, 1) := by decide +kernel
theorem dX11_hearers_11 : decode cX11_hearers 11 = .ok (.iload_n 2, 1) := by decide +kernel
theorem dX11_hearers_12 : decode cX11_hearers 12 = .ok (.iconst 0, 1) := by decide +kernel
theorem dX11_hearers_13 : decode cX11_hearers 13 = .ok (.bipush 23, 2) := by decide +kernel
theorem dX11_hearers_15 : decode cX11_hearers 15 = .ok (.invokestatic 197, 3) := by decide +kernel
theorem dX11_hearers_18 : decode cX11_hearers 18 = .ok (.ifCond .eq 13, 3) := by decide +kernel
theorem dX11_hearers_21 : decode cX11_hearers 21 = .ok (.iload_n 3, 1) := by decide +kernel
theorem dX11_hearers_22 : decode cX11_hearers 22 = .ok (.iconst 0, 1) := by decide +kernel
theorem dX11_hearers_23 : decode cX11_hearers 23 = .ok (.bipush 48, 2) := by decide +kernel
theorem dX11_hearers_25 : decode cX11_hearers 25 = .ok (.invokestatic 197, 3) := by decide +kernel
theorem dX11_hearers_28 : decode cX11_hearers 28 = .ok (.ifCond .ne 6, 3) := by decide +kernel
theorem dX11_hearers_31 : decode cX11_hearers 31 = .ok (.bipush (-3), 2) := by decide +kernel
theorem dX11_hearers_33 : decode cX11_hearers 33 = .ok (.ireturn, 1) := by decide +kernel
theorem dX11_hearers_34 : decode cX11_hearers 34 = .ok (.aload_n 0, 1) := by decide +kernel
theorem dX11_hearers_35 : decode cX11_hearers 35 = .ok (.getfield 68, 3) := by decide +kernel
theorem dX11_hearers_38 : decode cX11_hearers 38 = .ok (.iload_n 2, 1) := by decide +kernel
theorem dX11_hearers_39 : decode cX11_hearers 39 = .ok (.iload_n 3, 1) := by decide +kernel
theorem dX11_hearers_40 : decode cX11_hearers 40 = .ok (.iadd, 1) := by decide +kernel
theorem dX11_hearers_41 : decode cX11_hearers 41 = .ok (.invokevirtual 262, 3) := by decide +kernel
theorem dX11_hearers_44 : decode cX11_hearers 44 = .ok (.aload_n 0, 1) := by decide +kernel
theorem dX11_hearers_45 : decode cX11_hearers 45 = .ok (.getfield 68, 3) := by decide +kernel
theorem dX11_hearers_48 : decode cX11_hearers 48 = .ok (.iload_n 1, 1) := by decide +kernel
theorem dX11_hearers_49 : decode cX11_hearers 49 = .ok (.iload_n 2, 1) := by decide +kernel
theorem dX11_hearers_50 : decode cX11_hearers 50 = .ok (.iconst 0, 1) := by decide +kernel
theorem dX11_hearers_51 : decode cX11_hearers 51 = .ok (.invokevirtual 265, 3) := by decide +kernel
theorem dX11_hearers_54 : decode cX11_hearers 54 = .ok (.aload_n 0, 1) := by decide +kernel
theorem dX11_hearers_55 : decode cX11_hearers 55 = .ok (.getfield 68, 3) := by decide +kernel
theorem dX11_hearers_58 : decode cX11_hearers 58 = .ok (.iload_n 2, 1) := by decide +kernel
theorem dX11_hearers_59 : decode cX11_hearers 59 = .ok (.iload_n 3, 1) := by decide +kernel
theorem dX11_hearers_60 : decode cX11_hearers 60 = .ok (.iadd, 1) := by decide +kernel
theorem dX11_hearers_61 : decode cX11_hearers 61 = .ok (.invokevirtual 269, 3) := by decide +kernel
theorem dX11_hearers_64 : decode cX11_hearers 64 = .ok (.ireturn, 1) := by decide +kernel
theorem dX11_far_0 : decode cX11_far 0 = .ok (.aload_n 0, 1) := by decide +kernel
theorem dX11_far_1 : decode cX11_far 1 = .ok (.iload_n 1, 1) := by decide +kernel
theorem dX11_far_2 : decode cX11_far 2 = .ok (.invokevirtual 194, 3) := by decide +kernel
theorem dX11_far_5 : decode cX11_far 5 = .ok (.ifCond .eq 11, 3) := by decide +kernel
theorem dX11_far_8 : decode cX11_far 8 = .ok (.aload_n 0, 1) := by decide +kernel
theorem dX11_far_9 : decode cX11_far 9 = .ok (.iload_n 2, 1) := by decide +kernel
theorem dX11_far_10 : decode cX11_far 10 = .ok (.invokevirtual 194, 3) := by decide +kernel
theorem dX11_far_13 : decode cX11_far 13 = .ok (.ifCond .ne 6, 3) := by decide +kernel
theorem dX11_far_16 : decode cX11_far 16 = .ok (.bipush (-2), 2) := by decide +kernel
theorem dX11_far_18 : decode cX11_far 18 = .ok (.ireturn, 1) := by decide +kernel
theorem dX11_far_19 : decode cX11_far 19 = .ok (.aload_n 0, 1) := by decide +kernel
theorem dX11_far_20 : decode cX11_far 20 = .ok (.getfield 68, 3) := by decide +kernel
theorem dX11_far_23 : decode cX11_far 23 = .ok (.bipush 48, 2) := by decide +kernel
theorem dX11_far_25 : decode cX11_far 25 = .ok (.invokevirtual 262, 3) := by decide +kernel
theorem dX11_far_28 : decode cX11_far 28 = .ok (.aload_n 0, 1) := by decide +kernel
theorem dX11_far_29 : decode cX11_far 29 = .ok (.getfield 68, 3) := by decide +kernel
theorem dX11_far_32 : decode cX11_far 32 = .ok (.iload_n 1, 1) := by decide +kernel
theorem dX11_far_33 : decode cX11_far 33 = .ok (.iconst 0, 1) := by decide +kernel
theorem dX11_far_34 : decode cX11_far 34 = .ok (.iconst 0, 1) := by decide +kernel
theorem dX11_far_35 : decode cX11_far 35 = .ok (.invokevirtual 265, 3) := by decide +kernel
theorem dX11_far_38 : decode cX11_far 38 = .ok (.aload_n 0, 1) := by decide +kernel
theorem dX11_far_39 : decode cX11_far 39 = .ok (.getfield 68, 3) := by decide +kernel
theorem dX11_far_42 : decode cX11_far 42 = .ok (.getfield 272, 3) := by decide +kernel
theorem dX11_far_45 : decode cX11_far 45 = .ok (.iload_n 2, 1) := by decide +kernel
theorem dX11_far_46 : decode cX11_far 46 = .ok (.iaload, 1) := by decide +kernel
theorem dX11_far_47 : decode cX11_far 47 = .ok (.istore_n 3, 1) := by decide +kernel
theorem dX11_far_48 : decode cX11_far 48 = .ok (.iload_n 3, 1) := by decide +kernel
theorem dX11_far_49 : decode cX11_far 49 = .ok (.bipush 48, 2) := by decide +kernel
theorem dX11_far_51 : decode cX11_far 51 = .ok (.if_icmp .gt 7, 3) := by decide +kernel
theorem dX11_far_54 : decode cX11_far 54 = .ok (.iload_n 3, 1) := by decide +kernel
theorem dX11_far_55 : decode cX11_far 55 = .ok (.goto 4, 3) := by decide +kernel
theorem dX11_far_58 : decode cX11_far 58 = .ok (.iconst (-1), 1) := by decide +kernel
theorem dX11_far_59 : decode cX11_far 59 = .ok (.ireturn, 1) := by decide +kernel
theorem dX11_reaches_0 : decode cX11_reaches 0 = .ok (.aload_n 0, 1) := by decide +kernel
theorem dX11_reaches_1 : decode cX11_reaches 1 = .ok (.iload_n 1, 1) := by decide +kernel
theorem dX11_reaches_2 : decode cX11_reaches 2 = .ok (.invokevirtual 194, 3) := by decide +kernel
theorem dX11_reaches_5 : decode cX11_reaches 5 = .ok (.ifCond .eq 11, 3) := by decide +kernel
theorem dX11_reaches_8 : decode cX11_reaches 8 = .ok (.aload_n 0, 1) := by decide +kernel
theorem dX11_reaches_9 : decode cX11_reaches 9 = .ok (.iload_n 2, 1) := by decide +kernel
theorem dX11_reaches_10 : decode cX11_reaches 10 = .ok (.invokevirtual 146, 3) := by decide +kernel
theorem dX11_reaches_13 : decode cX11_reaches 13 = .ok (.ifCond .ne 6, 3) := by decide +kernel
theorem dX11_reaches_16 : decode cX11_reaches 16 = .ok (.bipush (-2), 2) := by decide +kernel
theorem dX11_reaches_18 : decode cX11_reaches 18 = .ok (.ireturn, 1) := by decide +kernel
theorem dX11_reaches_19 : decode cX11_reaches 19 = .ok (.aload_n 0, 1) := by decide +kernel
theorem dX11_reaches_20 : decode cX11_reaches 20 = .ok (.getfield 68, 3) := by decide +kernel
theorem dX11_reaches_23 : decode cX11_reaches 23 = .ok (.bipush 48, 2) := by decide +kernel
theorem dX11_reaches_25 : decode cX11_reaches 25 = .ok (.invokevirtual 262, 3) := by decide +kernel
theorem dX11_reaches_28 : decode cX11_reaches 28 = .ok (.aload_n 0, 1) := by decide +kernel
theorem dX11_reaches_29 : decode cX11_reaches 29 = .ok (.getfield 68, 3) := by decide +kernel
theorem dX11_reaches_32 : decode cX11_reaches 32 = .ok (.iload_n 1, 1) := by decide +kernel
theorem dX11_reaches_33 : decode cX11_reaches 33 = .ok (.iconst 0, 1) := by decide +kernel
theorem dX11_reaches_34 : decode cX11_reaches 34 = .ok (.iconst 0, 1) := by decide +kernel
theorem dX11_reaches_35 : decode cX11_reaches 35 = .ok (.invokevirtual 265, 3) := by decide +kernel
theorem dX11_reaches_38 : decode cX11_reaches 38 = .ok (.aload_n 0, 1) := by decide +kernel
theorem dX11_reaches_39 : decode cX11_reaches 39 = .ok (.getfield 68, 3) := by decide +kernel
theorem dX11_reaches_42 : decode cX11_reaches 42 = .ok (.iload_n 2, 1) := by decide +kernel
theorem dX11_reaches_43 : decode cX11_reaches 43 = .ok (.invokevirtual 275, 3) := by decide +kernel
theorem dX11_reaches_46 : decode cX11_reaches 46 = .ok (.istore_n 3, 1) := by decide +kernel
theorem dX11_reaches_47 : decode cX11_reaches 47 = .ok (.iload_n 3, 1) := by decide +kernel
theorem dX11_reaches_48 : decode cX11_reaches 48 = .ok (.bipush 48, 2) := by decide +kernel
theorem dX11_reaches_50 : decode cX11_reaches 50 = .ok (.if_icmp .gt 7, 3) := by decide +kernel
theorem dX11_reaches_53 : decode cX11_reaches 53 = .ok (.iload_n 3, 1) := by decide +kernel
theorem dX11_reaches_54 : decode cX11_reaches 54 = .ok (.goto 4, 3) := by decide +kernel
theorem dX11_reaches_57 : decode cX11_reaches 57 = .ok (.iconst (-1), 1) := by decide +kernel
theorem dX11_reaches_58 : decode cX11_reaches 58 = .ok (.ireturn, 1) := by decide +kernel
theorem dX11_secret_0 : decode cX11_secret 0 = .ok (.iload_n 3, 1) := by decide +kernel
theorem dX11_secret_1 : decode cX11_secret 1 = .ok (.iconst 0, 1) := by decide +kernel
theorem dX11_secret_2 : decode cX11_secret 2 = .ok (.iconst 1, 1) := by decide +kernel
theorem dX11_secret_3 : decode cX11_secret 3 = .ok (.invokestatic 197, 3) := by decide +kernel
theorem dX11_secret_6 : decode cX11_secret 6 = .ok (.ifCond .ne 6, 3) := by decide +kernel
theorem dX11_secret_9 : decode cX11_secret 9 = .ok (.bipush (-2), 2) := by decide +kernel
theorem dX11_secret_11 : decode cX11_secret 11 = .ok (.ireturn, 1) := by decide +kernel
theorem dX11_secret_12 : decode cX11_secret 12 = .ok (.iload_n 1, 1) := by decide +kernel
theorem dX11_secret_13 : decode cX11_secret 13 = .ok (.ifCond .lt 26, 3) := by decide +kernel
theorem dX11_secret_16 : decode cX11_secret 16 = .ok (.iload_n 1, 1) := by decide +kernel
theorem dX11_secret_17 : decode cX11_secret 17 = .ok (.iconst 1, 1) := by decide +kernel
theorem dX11_secret_18 : decode cX11_secret 18 = .ok (.aload_n 0, 1) := by decide +kernel
theorem dX11_secret_19 : decode cX11_secret 19 = .ok (.getfield 26, 3) := by decide +kernel
theorem dX11_secret_22 : decode cX11_secret 22 = .ok (.getfield 278, 3) := by decide +kernel
theorem dX11_secret_25 : decode cX11_secret 25 = .ok (.ishl, 1) := by decide +kernel
theorem dX11_secret_26 : decode cX11_secret 26 = .ok (.if_icmp .ge 13, 3) := by decide +kernel
theorem dX11_secret_29 : decode cX11_secret 29 = .ok (.iload_n 2, 1) := by decide +kernel
theorem dX11_secret_30 : decode cX11_secret 30 = .ok (.iconst 0, 1) := by decide +kernel
theorem dX11_secret_31 : decode cX11_secret 31 = .ok (.bipush 48, 2) := by decide +kernel
theorem dX11_secret_33 : decode cX11_secret 33 = .ok (.invokestatic 197, 3) := by decide +kernel
theorem dX11_secret_36 : decode cX11_secret 36 = .ok (.ifCond .ne 6, 3) := by decide +kernel
theorem dX11_secret_39 : decode cX11_secret 39 = .ok (.bipush (-3), 2) := by decide +kernel
theorem dX11_secret_41 : decode cX11_secret 41 = .ok (.ireturn, 1) := by decide +kernel
theorem dX11_secret_42 : decode cX11_secret 42 = .ok (.aload_n 0, 1) := by decide +kernel
theorem dX11_secret_43 : decode cX11_secret 43 = .ok (.getfield 68, 3) := by decide +kernel
theorem dX11_secret_46 : decode cX11_secret 46 = .ok (.bipush 23, 2) := by decide +kernel
theorem dX11_secret_48 : decode cX11_secret 48 = .ok (.iload_n 2, 1) := by decide +kernel
theorem dX11_secret_49 : decode cX11_secret 49 = .ok (.iadd, 1) := by decide +kernel
theorem dX11_secret_50 : decode cX11_secret 50 = .ok (.invokevirtual 262, 3) := by decide +kernel
theorem dX11_secret_53 : decode cX11_secret 53 = .ok (.iconst 0, 1) := by decide +kernel
theorem dX11_secret_54 : decode cX11_secret 54 = .ok (.istore 4, 2) := by decide +kernel
theorem dX11_secret_56 : decode cX11_secret 56 = .ok (.iload 4, 2) := by decide +kernel
theorem dX11_secret_58 : decode cX11_secret 58 = .ok (.bipush 23, 2) := by decide +kernel
theorem dX11_secret_60 : decode cX11_secret 60 = .ok (.if_icmp .gt 69, 3) := by decide +kernel
theorem dX11_secret_63 : decode cX11_secret 63 = .ok (.iconst 0, 1) := by decide +kernel
theorem dX11_secret_64 : decode cX11_secret 64 = .ok (.istore 5, 2) := by decide +kernel
theorem dX11_secret_66 : decode cX11_secret 66 = .ok (.iload 5, 2) := by decide +kernel
theorem dX11_secret_68 : decode cX11_secret 68 = .ok (.aload_n 0, 1) := by decide +kernel
theorem dX11_secret_69 : decode cX11_secret 69 = .ok (.getfield 26, 3) := by decide +kernel
theorem dX11_secret_72 : decode cX11_secret 72 = .ok (.getfield 281, 3) := by decide +kernel
theorem dX11_secret_75 : decode cX11_secret 75 = .ok (.if_icmp .ge 48, 3) := by decide +kernel
theorem dX11_secret_78 : decode cX11_secret 78 = .ok (.aload_n 0, 1) := by decide +kernel
theorem dX11_secret_79 : decode cX11_secret 79 = .ok (.getfield 68, 3) := by decide +kernel
theorem dX11_secret_82 : decode cX11_secret 82 = .ok (.iload 5, 2) := by decide +kernel
theorem dX11_secret_84 : decode cX11_secret 84 = .ok (.iload 4, 2) := by decide +kernel
theorem dX11_secret_86 : decode cX11_secret 86 = .ok (.iconst 0, 1) := by decide +kernel
theorem dX11_secret_87 : decode cX11_secret 87 = .ok (.invokevirtual 265, 3) := by decide +kernel
theorem dX11_secret_90 : decode cX11_secret 90 = .ok (.aload_n 0, 1) := by decide +kernel
theorem dX11_secret_91 : decode cX11_secret 91 = .ok (.getfield 68, 3) := by decide +kernel
theorem dX11_secret_94 : decode cX11_secret 94 = .ok (.iload 4, 2) := by decide +kernel
theorem dX11_secret_96 : decode cX11_secret 96 = .ok (.iload_n 2, 1) := by decide +kernel
theorem dX11_secret_97 : decode cX11_secret 97 = .ok (.iadd, 1) := by decide +kernel
theorem dX11_secret_98 : decode cX11_secret 98 = .ok (.invokevirtual 269, 3) := by decide +kernel
theorem dX11_secret_101 : decode cX11_secret 101 = .ok (.iload_n 1, 1) := by decide +kernel
theorem dX11_secret_102 : decode cX11_secret 102 = .ok (.if_icmp .ne 15, 3) := by decide +kernel
theorem dX11_secret_105 : decode cX11_secret 105 = .ok (.iload_n 3, 1) := by decide +kernel
theorem dX11_secret_106 : decode cX11_secret 106 = .ok (.ifCond .ne 8, 3) := by decide +kernel
theorem dX11_secret_109 : decode cX11_secret 109 = .ok (.iload 4, 2) := by decide +kernel
theorem dX11_secret_111 : decode cX11_secret 111 = .ok (.goto 5, 3) := by decide +kernel
theorem dX11_secret_114 : decode cX11_secret 114 = .ok (.iload 5, 2) := by decide +kernel
theorem dX11_secret_116 : decode cX11_secret 116 = .ok (.ireturn, 1) := by decide +kernel
theorem dX11_secret_117 : decode cX11_secret 117 = .ok (.iinc 5 1, 3) := by decide +kernel
theorem dX11_secret_120 : decode cX11_secret 120 = .ok (.goto (-54), 3) := by decide +kernel
theorem dX11_secret_123 : decode cX11_secret 123 = .ok (.iinc 4 1, 3) := by decide +kernel
theorem dX11_secret_126 : decode cX11_secret 126 = .ok (.goto (-70), 3) := by decide +kernel
theorem dX11_secret_129 : decode cX11_secret 129 = .ok (.iconst (-1), 1) := by decide +kernel
theorem dX11_secret_130 : decode cX11_secret 130 = .ok (.ireturn, 1) := by decide +kernel
theorem dX11_widest_0 : decode cX11_widest 0 = .ok (.iload_n 1, 1) := by decide +kernel
theorem dX11_widest_1 : decode cX11_widest 1 = .ok (.iconst 0, 1) := by decide +kernel
theorem dX11_widest_2 : decode cX11_widest 2 = .ok (.bipush 48, 2) := by decide +kernel
theorem dX11_widest_4 : decode cX11_widest 4 = .ok (.invokestatic 197, 3) := by decide +kernel
theorem dX11_widest_7 : decode cX11_widest 7 = .ok (.ifCond .ne 6, 3) := by decide +kernel
theorem dX11_widest_10 : decode cX11_widest 10 = .ok (.bipush (-3), 2) := by decide +kernel
theorem dX11_widest_12 : decode cX11_widest 12 = .ok (.ireturn, 1) := by decide +kernel
theorem dX11_widest_13 : decode cX11_widest 13 = .ok (.aload_n 0, 1) := by decide +kernel
theorem dX11_widest_14 : decode cX11_widest 14 = .ok (.getfield 68, 3) := by decide +kernel
theorem dX11_widest_17 : decode cX11_widest 17 = .ok (.iload_n 1, 1) := by decide +kernel
theorem dX11_widest_18 : decode cX11_widest 18 = .ok (.invokevirtual 262, 3) := by decide +kernel
theorem dX11_widest_21 : decode cX11_widest 21 = .ok (.iconst (-1), 1) := by decide +kernel
theorem dX11_widest_22 : decode cX11_widest 22 = .ok (.istore_n 2, 1) := by decide +kernel
theorem dX11_widest_23 : decode cX11_widest 23 = .ok (.iconst (-1), 1) := by decide +kernel
theorem dX11_widest_24 : decode cX11_widest 24 = .ok (.istore_n 3, 1) := by decide +kernel
theorem dX11_widest_25 : decode cX11_widest 25 = .ok (.iconst 0, 1) := by decide +kernel
theorem dX11_widest_26 : decode cX11_widest 26 = .ok (.istore 4, 2) := by decide +kernel
theorem dX11_widest_28 : decode cX11_widest 28 = .ok (.iload 4, 2) := by decide +kernel
theorem dX11_widest_30 : decode cX11_widest 30 = .ok (.aload_n 0, 1) := by decide +kernel
theorem dX11_widest_31 : decode cX11_widest 31 = .ok (.getfield 26, 3) := by decide +kernel
theorem dX11_widest_34 : decode cX11_widest 34 = .ok (.getfield 281, 3) := by decide +kernel
theorem dX11_widest_37 : decode cX11_widest 37 = .ok (.if_icmp .ge 45, 3) := by decide +kernel
theorem dX11_widest_40 : decode cX11_widest 40 = .ok (.aload_n 0, 1) := by decide +kernel
theorem dX11_widest_41 : decode cX11_widest 41 = .ok (.getfield 68, 3) := by decide +kernel
theorem dX11_widest_44 : decode cX11_widest 44 = .ok (.iload 4, 2) := by decide +kernel
theorem dX11_widest_46 : decode cX11_widest 46 = .ok (.iconst 0, 1) := by decide +kernel
theorem dX11_widest_47 : decode cX11_widest 47 = .ok (.iconst 0, 1) := by decide +kernel
theorem dX11_widest_48 : decode cX11_widest 48 = .ok (.invokevirtual 265, 3) := by decide +kernel
theorem dX11_widest_51 : decode cX11_widest 51 = .ok (.aload_n 0, 1) := by decide +kernel
theorem dX11_widest_52 : decode cX11_widest 52 = .ok (.getfield 68, 3) := by decide +kernel
theorem dX11_widest_55 : decode cX11_widest 55 = .ok (.iload_n 1, 1) := by decide +kernel
theorem dX11_widest_56 : decode cX11_widest 56 = .ok (.invokevirtual 269, 3) := by decide +kernel
theorem dX11_widest_59 : decode cX11_widest 59 = .ok (.invokestatic 163, 3) := by decide +kernel
theorem dX11_widest_62 : decode cX11_widest 62 = .ok (.istore 5, 2) := by decide +kernel
theorem dX11_widest_64 : decode cX11_widest 64 = .ok (.iload 5, 2) := by decide +kernel
theorem dX11_widest_66 : decode cX11_widest 66 = .ok (.iload_n 3, 1) := by decide +kernel
theorem dX11_widest_67 : decode cX11_widest 67 = .ok (.if_icmp .le 9, 3) := by decide +kernel
theorem dX11_widest_70 : decode cX11_widest 70 = .ok (.iload 5, 2) := by decide +kernel
theorem dX11_widest_72 : decode cX11_widest 72 = .ok (.istore_n 3, 1) := by decide +kernel
theorem dX11_widest_73 : decode cX11_widest 73 = .ok (.iload 4, 2) := by decide +kernel
theorem dX11_widest_75 : decode cX11_widest 75 = .ok (.istore_n 2, 1) := by decide +kernel
theorem dX11_widest_76 : decode cX11_widest 76 = .ok (.iinc 4 1, 3) := by decide +kernel
theorem dX11_widest_79 : decode cX11_widest 79 = .ok (.goto (-51), 3) := by decide +kernel
theorem dX11_widest_82 : decode cX11_widest 82 = .ok (.iload_n 2, 1) := by decide +kernel
theorem dX11_widest_83 : decode cX11_widest 83 = .ok (.ireturn, 1) := by decide +kernel
theorem dX11_shut_0 : decode cX11_shut 0 = .ok (.aload_n 0, 1) := by decide +kernel
theorem dX11_shut_1 : decode cX11_shut 1 = .ok (.iload_n 1, 1) := by decide +kernel
theorem dX11_shut_2 : decode cX11_shut 2 = .ok (.invokevirtual 194, 3) := by decide +kernel
theorem dX11_shut_5 : decode cX11_shut 5 = .ok (.ifCond .eq 21, 3) := by decide +kernel
theorem dX11_shut_8 : decode cX11_shut 8 = .ok (.aload_n 0, 1) := by decide +kernel
theorem dX11_shut_9 : decode cX11_shut 9 = .ok (.iload_n 2, 1) := by decide +kernel
theorem dX11_shut_10 : decode cX11_shut 10 = .ok (.invokevirtual 146, 3) := by decide +kernel
theorem dX11_shut_13 : decode cX11_shut 13 = .ok (.ifCond .eq 13, 3) := by decide +kernel
theorem dX11_shut_16 : decode cX11_shut 16 = .ok (.iload 4, 2) := by decide +kernel
theorem dX11_shut_18 : decode cX11_shut 18 = .ok (.iconst 0, 1) := by decide +kernel
theorem dX11_shut_19 : decode cX11_shut 19 = .ok (.iconst 1, 1) := by decide +kernel
theorem dX11_shut_20 : decode cX11_shut 20 = .ok (.invokestatic 197, 3) := by decide +kernel
theorem dX11_shut_23 : decode cX11_shut 23 = .ok (.ifCond .ne 6, 3) := by decide +kernel
theorem dX11_shut_26 : decode cX11_shut 26 = .ok (.bipush (-2), 2) := by decide +kernel
theorem dX11_shut_28 : decode cX11_shut 28 = .ok (.ireturn, 1) := by decide +kernel
theorem dX11_shut_29 : decode cX11_shut 29 = .ok (.iload_n 3, 1) := by decide +kernel
theorem dX11_shut_30 : decode cX11_shut 30 = .ok (.iconst 0, 1) := by decide +kernel
theorem dX11_shut_31 : decode cX11_shut 31 = .ok (.bipush 48, 2) := by decide +kernel
theorem dX11_shut_33 : decode cX11_shut 33 = .ok (.invokestatic 197, 3) := by decide +kernel
theorem dX11_shut_36 : decode cX11_shut 36 = .ok (.ifCond .ne 6, 3) := by decide +kernel
theorem dX11_shut_39 : decode cX11_shut 39 = .ok (.bipush (-3), 2) := by decide +kernel
theorem dX11_shut_41 : decode cX11_shut 41 = .ok (.ireturn, 1) := by decide +kernel
theorem dX11_shut_42 : decode cX11_shut 42 = .ok (.aload_n 0, 1) := by decide +kernel
theorem dX11_shut_43 : decode cX11_shut 43 = .ok (.getfield 68, 3) := by decide +kernel
theorem dX11_shut_46 : decode cX11_shut 46 = .ok (.iload_n 3, 1) := by decide +kernel
theorem dX11_shut_47 : decode cX11_shut 47 = .ok (.invokevirtual 262, 3) := by decide +kernel
theorem dX11_shut_50 : decode cX11_shut 50 = .ok (.aload_n 0, 1) := by decide +kernel
theorem dX11_shut_51 : decode cX11_shut 51 = .ok (.getfield 68, 3) := by decide +kernel
theorem dX11_shut_54 : decode cX11_shut 54 = .ok (.iload_n 1, 1) := by decide +kernel
theorem dX11_shut_55 : decode cX11_shut 55 = .ok (.iload_n 2, 1) := by decide +kernel
theorem dX11_shut_56 : decode cX11_shut 56 = .ok (.iload_n 3, 1) := by decide +kernel
theorem dX11_shut_57 : decode cX11_shut 57 = .ok (.invokevirtual 284, 3) := by decide +kernel
theorem dX11_shut_60 : decode cX11_shut 60 = .ok (.iload 4, 2) := by decide +kernel
theorem dX11_shut_62 : decode cX11_shut 62 = .ok (.invokestatic 288, 3) := by decide +kernel
theorem dX11_shut_65 : decode cX11_shut 65 = .ok (.ireturn, 1) := by decide +kernel
theorem dX11_take_0 : decode cX11_take 0 = .ok (.aload_n 0, 1) := by decide +kernel
theorem dX11_take_1 : decode cX11_take 1 = .ok (.iload_n 1, 1) := by decide +kernel
theorem dX11_take_2 : decode cX11_take 2 = .ok (.invokevirtual 194, 3) := by decide +kernel
theorem dX11_take_5 : decode cX11_take 5 = .ok (.ifCond .eq 21, 3) := by decide +kernel
theorem dX11_take_8 : decode cX11_take 8 = .ok (.aload_n 0, 1) := by decide +kernel
theorem dX11_take_9 : decode cX11_take 9 = .ok (.iload_n 2, 1) := by decide +kernel
theorem dX11_take_10 : decode cX11_take 10 = .ok (.invokevirtual 146, 3) := by decide +kernel
theorem dX11_take_13 : decode cX11_take 13 = .ok (.ifCond .eq 13, 3) := by decide +kernel
theorem dX11_take_16 : decode cX11_take 16 = .ok (.iload 4, 2) := by decide +kernel
theorem dX11_take_18 : decode cX11_take 18 = .ok (.iconst 0, 1) := by decide +kernel
theorem dX11_take_19 : decode cX11_take 19 = .ok (.iconst 1, 1) := by decide +kernel
theorem dX11_take_20 : decode cX11_take 20 = .ok (.invokestatic 197, 3) := by decide +kernel
theorem dX11_take_23 : decode cX11_take 23 = .ok (.ifCond .ne 6, 3) := by decide +kernel
theorem dX11_take_26 : decode cX11_take 26 = .ok (.bipush (-2), 2) := by decide +kernel
theorem dX11_take_28 : decode cX11_take 28 = .ok (.ireturn, 1) := by decide +kernel
theorem dX11_take_29 : decode cX11_take 29 = .ok (.iload_n 3, 1) := by decide +kernel
theorem dX11_take_30 : decode cX11_take 30 = .ok (.iconst 0, 1) := by decide +kernel
theorem dX11_take_31 : decode cX11_take 31 = .ok (.bipush 48, 2) := by decide +kernel
theorem dX11_take_33 : decode cX11_take 33 = .ok (.invokestatic 197, 3) := by decide +kernel
theorem dX11_take_36 : decode cX11_take 36 = .ok (.ifCond .ne 6, 3) := by decide +kernel
theorem dX11_take_39 : decode cX11_take 39 = .ok (.bipush (-3), 2) := by decide +kernel
theorem dX11_take_41 : decode cX11_take 41 = .ok (.ireturn, 1) := by decide +kernel
theorem dX11_take_42 : decode cX11_take 42 = .ok (.aload_n 0, 1) := by decide +kernel
theorem dX11_take_43 : decode cX11_take 43 = .ok (.getfield 68, 3) := by decide +kernel
theorem dX11_take_46 : decode cX11_take 46 = .ok (.iload_n 3, 1) := by decide +kernel
theorem dX11_take_47 : decode cX11_take 47 = .ok (.invokevirtual 262, 3) := by decide +kernel
theorem dX11_take_50 : decode cX11_take 50 = .ok (.aload_n 0, 1) := by decide +kernel
theorem dX11_take_51 : decode cX11_take 51 = .ok (.getfield 68, 3) := by decide +kernel
theorem dX11_take_54 : decode cX11_take 54 = .ok (.iload_n 1, 1) := by decide +kernel
theorem dX11_take_55 : decode cX11_take 55 = .ok (.iconst 0, 1) := by decide +kernel
theorem dX11_take_56 : decode cX11_take 56 = .ok (.iconst 0, 1) := by decide +kernel
theorem dX11_take_57 : decode cX11_take 57 = .ok (.invokevirtual 265, 3) := by decide +kernel
theorem dX11_take_60 : decode cX11_take 60 = .ok (.aload_n 0, 1) := by decide +kernel
theorem dX11_take_61 : decode cX11_take 61 = .ok (.getfield 68, 3) := by decide +kernel
theorem dX11_take_64 : decode cX11_take 64 = .ok (.iload_n 2, 1) := by decide +kernel
theorem dX11_take_65 : decode cX11_take 65 = .ok (.iload_n 3, 1) := by decide +kernel
theorem dX11_take_66 : decode cX11_take 66 = .ok (.invokevirtual 291, 3) := by decide +kernel
theorem dX11_take_69 : decode cX11_take 69 = .ok (.iload 4, 2) := by decide +kernel
theorem dX11_take_71 : decode cX11_take 71 = .ok (.invokestatic 288, 3) := by decide +kernel
theorem dX11_take_74 : decode cX11_take 74 = .ok (.ireturn, 1) := by decide +kernel
theorem dX11_needs_0 : decode cX11_needs 0 = .ok (.aload_n 0, 1) := by decide +kernel
theorem dX11_needs_1 : decode cX11_needs 1 = .ok (.iload_n 1, 1) := by decide +kernel
theorem dX11_needs_2 : decode cX11_needs 2 = .ok (.invokevirtual 194, 3) := by decide +kernel
theorem dX11_needs_5 : decode cX11_needs 5 = .ok (.ifCond .ne 6, 3) := by decide +kernel
theorem dX11_needs_8 : decode cX11_needs 8 = .ok (.bipush (-2), 2) := by decide +kernel
theorem dX11_needs_10 : decode cX11_needs 10 = .ok (.ireturn, 1) := by decide +kernel
theorem dX11_needs_11 : decode cX11_needs 11 = .ok (.iload_n 2, 1) := by decide +kernel
theorem dX11_needs_12 : decode cX11_needs 12 = .ok (.iconst 0, 1) := by decide +kernel
theorem dX11_needs_13 : decode cX11_needs 13 = .ok (.bipush 48, 2) := by decide +kernel
theorem dX11_needs_15 : decode cX11_needs 15 = .ok (.invokestatic 197, 3) := by decide +kernel
theorem dX11_needs_18 : decode cX11_needs 18 = .ok (.ifCond .ne 6, 3) := by decide +kernel
theorem dX11_needs_21 : decode cX11_needs 21 = .ok (.bipush (-3), 2) := by decide +kernel
theorem dX11_needs_23 : decode cX11_needs 23 = .ok (.ireturn, 1) := by decide +kernel
theorem dX11_needs_24 : decode cX11_needs 24 = .ok (.aload_n 0, 1) := by decide +kernel
theorem dX11_needs_25 : decode cX11_needs 25 = .ok (.getfield 68, 3) := by decide +kernel
theorem dX11_needs_28 : decode cX11_needs 28 = .ok (.iload_n 2, 1) := by decide +kernel
theorem dX11_needs_29 : decode cX11_needs 29 = .ok (.invokevirtual 262, 3) := by decide +kernel
theorem dX11_needs_32 : decode cX11_needs 32 = .ok (.aload_n 0, 1) := by decide +kernel
theorem dX11_needs_33 : decode cX11_needs 33 = .ok (.getfield 68, 3) := by decide +kernel
theorem dX11_needs_36 : decode cX11_needs 36 = .ok (.iload_n 1, 1) := by decide +kernel
theorem dX11_needs_37 : decode cX11_needs 37 = .ok (.iconst 0, 1) := by decide +kernel
theorem dX11_needs_38 : decode cX11_needs 38 = .ok (.iconst 0, 1) := by decide +kernel
theorem dX11_needs_39 : decode cX11_needs 39 = .ok (.invokevirtual 265, 3) := by decide +kernel
theorem dX11_needs_42 : decode cX11_needs 42 = .ok (.aload_n 0, 1) := by decide +kernel
theorem dX11_needs_43 : decode cX11_needs 43 = .ok (.getfield 68, 3) := by decide +kernel
theorem dX11_needs_46 : decode cX11_needs 46 = .ok (.iload_n 2, 1) := by decide +kernel
theorem dX11_needs_47 : decode cX11_needs 47 = .ok (.invokevirtual 269, 3) := by decide +kernel
theorem dX11_needs_50 : decode cX11_needs 50 = .ok (.invokestatic 163, 3) := by decide +kernel
theorem dX11_needs_53 : decode cX11_needs 53 = .ok (.istore_n 3, 1) := by decide +kernel
theorem dX11_needs_54 : decode cX11_needs 54 = .ok (.iconst 0, 1) := by decide +kernel
theorem dX11_needs_55 : decode cX11_needs 55 = .ok (.istore 4, 2) := by decide +kernel
theorem dX11_needs_57 : decode cX11_needs 57 = .ok (.iconst 0, 1) := by decide +kernel
theorem dX11_needs_58 : decode cX11_needs 58 = .ok (.istore 5, 2) := by decide +kernel
theorem dX11_needs_60 : decode cX11_needs 60 = .ok (.iload 5, 2) := by decide +kernel
theorem dX11_needs_62 : decode cX11_needs 62 = .ok (.aload_n 0, 1) := by decide +kernel
theorem dX11_needs_63 : decode cX11_needs 63 = .ok (.getfield 26, 3) := by decide +kernel
theorem dX11_needs_66 : decode cX11_needs 66 = .ok (.getfield 124, 3) := by decide +kernel
theorem dX11_needs_69 : decode cX11_needs 69 = .ok (.if_icmp .ge 46, 3) := by decide +kernel
theorem dX11_needs_72 : decode cX11_needs 72 = .ok (.aload_n 0, 1) := by decide +kernel
theorem dX11_needs_73 : decode cX11_needs 73 = .ok (.getfield 68, 3) := by decide +kernel
theorem dX11_needs_76 : decode cX11_needs 76 = .ok (.iload_n 1, 1) := by decide +kernel
theorem dX11_needs_77 : decode cX11_needs 77 = .ok (.iconst 0, 1) := by decide +kernel
theorem dX11_needs_78 : decode cX11_needs 78 = .ok (.iconst 1, 1) := by decide +kernel
theorem dX11_needs_79 : decode cX11_needs 79 = .ok (.iload 5, 2) := by decide +kernel
theorem dX11_needs_81 : decode cX11_needs 81 = .ok (.ishl, 1) := by decide +kernel
theorem dX11_needs_82 : decode cX11_needs 82 = .ok (.invokevirtual 265, 3) := by decide +kernel
theorem dX11_needs_85 : decode cX11_needs 85 = .ok (.aload_n 0, 1) := by decide +kernel
theorem dX11_needs_86 : decode cX11_needs 86 = .ok (.getfield 68, 3) := by decide +kernel
theorem dX11_needs_89 : decode cX11_needs 89 = .ok (.iload_n 2, 1) := by decide +kernel
theorem dX11_needs_90 : decode cX11_needs 90 = .ok (.invokevirtual 269, 3) := by decide +kernel
theorem dX11_needs_93 : decode cX11_needs 93 = .ok (.invokestatic 163, 3) := by decide +kernel
theorem dX11_needs_96 : decode cX11_needs 96 = .ok (.iload_n 3, 1) := by decide +kernel
theorem dX11_needs_97 : decode cX11_needs 97 = .ok (.if_icmp .ge 12, 3) := by decide +kernel
theorem dX11_needs_100 : decode cX11_needs 100 = .ok (.iload 4, 2) := by decide +kernel
theorem dX11_needs_102 : decode cX11_needs 102 = .ok (.iconst 1, 1) := by decide +kernel
theorem dX11_needs_103 : decode cX11_needs 103 = .ok (.iload 5, 2) := by decide +kernel
theorem dX11_needs_105 : decode cX11_needs 105 = .ok (.ishl, 1) := by decide +kernel
theorem dX11_needs_106 : decode cX11_needs 106 = .ok (.ior, 1) := by decide +kernel
theorem dX11_needs_107 : decode cX11_needs 107 = .ok (.istore 4, 2) := by decide +kernel
theorem dX11_needs_109 : decode cX11_needs 109 = .ok (.iinc 5 1, 3) := by decide +kernel
theorem dX11_needs_112 : decode cX11_needs 112 = .ok (.goto (-52), 3) := by decide +kernel
theorem dX11_needs_115 : decode cX11_needs 115 = .ok (.iload 4, 2) := by decide +kernel
theorem dX11_needs_117 : decode cX11_needs 117 = .ok (.ireturn, 1) := by decide +kernel
theorem dX11_spies_0 : decode cX11_spies 0 = .ok (.iload_n 3, 1) := by decide +kernel
theorem dX11_spies_1 : decode cX11_spies 1 = .ok (.iconst 0, 1) := by decide +kernel
theorem dX11_spies_2 : decode cX11_spies 2 = .ok (.iconst 1, 1) := by decide +kernel
theorem dX11_spies_3 : decode cX11_spies 3 = .ok (.invokestatic 197, 3) := by decide +kernel
theorem dX11_spies_6 : decode cX11_spies 6 = .ok (.ifCond .ne 6, 3) := by decide +kernel
theorem dX11_spies_9 : decode cX11_spies 9 = .ok (.bipush (-2), 2) := by decide +kernel
theorem dX11_spies_11 : decode cX11_spies 11 = .ok (.ireturn, 1) := by decide +kernel
theorem dX11_spies_12 : decode cX11_spies 12 = .ok (.iload_n 1, 1) := by decide +kernel
theorem dX11_spies_13 : decode cX11_spies 13 = .ok (.iconst 1, 1) := by decide +kernel
theorem dX11_spies_14 : decode cX11_spies 14 = .ok (.aload_n 0, 1) := by decide +kernel
theorem dX11_spies_15 : decode cX11_spies 15 = .ok (.getfield 26, 3) := by decide +kernel
theorem dX11_spies_18 : decode cX11_spies 18 = .ok (.getfield 281, 3) := by decide +kernel
theorem dX11_spies_21 : decode cX11_spies 21 = .ok (.invokestatic 197, 3) := by decide +kernel
theorem dX11_spies_24 : decode cX11_spies 24 = .ok (.ifCond .eq 13, 3) := by decide +kernel
theorem dX11_spies_27 : decode cX11_spies 27 = .ok (.iload_n 2, 1) := by decide +kernel
theorem dX11_spies_28 : decode cX11_spies 28 = .ok (.iconst 0, 1) := by decide +kernel
theorem dX11_spies_29 : decode cX11_spies 29 = .ok (.bipush 48, 2) := by decide +kernel
theorem dX11_spies_31 : decode cX11_spies 31 = .ok (.invokestatic 197, 3) := by decide +kernel
theorem dX11_spies_34 : decode cX11_spies 34 = .ok (.ifCond .ne 6, 3) := by decide +kernel
theorem dX11_spies_37 : decode cX11_spies 37 = .ok (.bipush (-3), 2) := by decide +kernel
theorem dX11_spies_39 : decode cX11_spies 39 = .ok (.ireturn, 1) := by decide +kernel
theorem dX11_spies_40 : decode cX11_spies 40 = .ok (.aload_n 0, 1) := by decide +kernel
theorem dX11_spies_41 : decode cX11_spies 41 = .ok (.iload_n 2, 1) := by decide +kernel
theorem dX11_spies_42 : decode cX11_spies 42 = .ok (.invokevirtual 294, 3) := by decide +kernel
theorem dX11_spies_45 : decode cX11_spies 45 = .ok (.aload_n 0, 1) := by decide +kernel
theorem dX11_spies_46 : decode cX11_spies 46 = .ok (.iload_n 1, 1) := by decide +kernel
theorem dX11_spies_47 : decode cX11_spies 47 = .ok (.invokevirtual 297, 3) := by decide +kernel
theorem dX11_spies_50 : decode cX11_spies 50 = .ok (.istore 4, 2) := by decide +kernel
theorem dX11_spies_52 : decode cX11_spies 52 = .ok (.iload_n 3, 1) := by decide +kernel
theorem dX11_spies_53 : decode cX11_spies 53 = .ok (.ifCond .ne 12, 3) := by decide +kernel
theorem dX11_spies_56 : decode cX11_spies 56 = .ok (.aload_n 0, 1) := by decide +kernel
theorem dX11_spies_57 : decode cX11_spies 57 = .ok (.iload 4, 2) := by decide +kernel
theorem dX11_spies_59 : decode cX11_spies 59 = .ok (.invokevirtual 300, 3) := by decide +kernel
theorem dX11_spies_62 : decode cX11_spies 62 = .ok (.goto 5, 3) := by decide +kernel
theorem dX11_spies_65 : decode cX11_spies 65 = .ok (.iload 4, 2) := by decide +kernel
theorem dX11_spies_67 : decode cX11_spies 67 = .ok (.ireturn, 1) := by decide +kernel
theorem dX11_watch_0 : decode cX11_watch 0 = .ok (.iload_n 1, 1) := by decide +kernel
theorem dX11_watch_1 : decode cX11_watch 1 = .ok (.iconst 0, 1) := by decide +kernel
theorem dX11_watch_2 : decode cX11_watch 2 = .ok (.bipush 48, 2) := by decide +kernel
theorem dX11_watch_4 : decode cX11_watch 4 = .ok (.invokestatic 197, 3) := by decide +kernel
theorem dX11_watch_7 : decode cX11_watch 7 = .ok (.ifCond .ne 6, 3) := by decide +kernel
theorem dX11_watch_10 : decode cX11_watch 10 = .ok (.bipush (-3), 2) := by decide +kernel
theorem dX11_watch_12 : decode cX11_watch 12 = .ok (.ireturn, 1) := by decide +kernel
theorem dX11_watch_13 : decode cX11_watch 13 = .ok (.aload_n 0, 1) := by decide +kernel
theorem dX11_watch_14 : decode cX11_watch 14 = .ok (.iload_n 1, 1) := by decide +kernel
theorem dX11_watch_15 : decode cX11_watch 15 = .ok (.invokevirtual 294, 3) := by decide +kernel
theorem dX11_watch_18 : decode cX11_watch 18 = .ok (.iconst 1, 1) := by decide +kernel
theorem dX11_watch_19 : decode cX11_watch 19 = .ok (.istore_n 2, 1) := by decide +kernel
theorem dX11_watch_20 : decode cX11_watch 20 = .ok (.iload_n 2, 1) := by decide +kernel
theorem dX11_watch_21 : decode cX11_watch 21 = .ok (.aload_n 0, 1) := by decide +kernel
theorem dX11_watch_22 : decode cX11_watch 22 = .ok (.getfield 26, 3) := by decide +kernel
theorem dX11_watch_25 : decode cX11_watch 25 = .ok (.getfield 281, 3) := by decide +kernel
theorem dX11_watch_28 : decode cX11_watch 28 = .ok (.if_icmp .ge 30, 3) := by decide +kernel
theorem dX11_watch_31 : decode cX11_watch 31 = .ok (.aload_n 0, 1) := by decide +kernel
theorem dX11_watch_32 : decode cX11_watch 32 = .ok (.aload_n 0, 1) := by decide +kernel
theorem dX11_watch_33 : decode cX11_watch 33 = .ok (.iload_n 2, 1) := by decide +kernel
theorem dX11_watch_34 : decode cX11_watch 34 = .ok (.invokevirtual 297, 3) := by decide +kernel
theorem dX11_watch_37 : decode cX11_watch 37 = .ok (.invokevirtual 300, 3) := by decide +kernel
theorem dX11_watch_40 : decode cX11_watch 40 = .ok (.aload_n 0, 1) := by decide +kernel
theorem dX11_watch_41 : decode cX11_watch 41 = .ok (.getfield 26, 3) := by decide +kernel
theorem dX11_watch_44 : decode cX11_watch 44 = .ok (.getfield 281, 3) := by decide +kernel
theorem dX11_watch_47 : decode cX11_watch 47 = .ok (.if_icmp .ne 5, 3) := by decide +kernel
theorem dX11_watch_50 : decode cX11_watch 50 = .ok (.iload_n 2, 1) := by decide +kernel
theorem dX11_watch_51 : decode cX11_watch 51 = .ok (.ireturn, 1) := by decide +kernel
theorem dX11_watch_52 : decode cX11_watch 52 = .ok (.iinc 2 1, 3) := by decide +kernel
theorem dX11_watch_55 : decode cX11_watch 55 = .ok (.goto (-35), 3) := by decide +kernel
theorem dX11_watch_58 : decode cX11_watch 58 = .ok (.aload_n 0, 1) := by decide +kernel
theorem dX11_watch_59 : decode cX11_watch 59 = .ok (.getfield 26, 3) := by decide +kernel
theorem dX11_watch_62 : decode cX11_watch 62 = .ok (.getfield 281, 3) := by decide +kernel
theorem dX11_watch_65 : decode cX11_watch 65 = .ok (.ireturn, 1) := by decide +kernel
theorem dX11_hears_0 : decode cX11_hears 0 = .ok (.aload_n 0, 1) := by decide +kernel
theorem dX11_hears_1 : decode cX11_hears 1 = .ok (.iload_n 1, 1) := by decide +kernel
theorem dX11_hears_2 : decode cX11_hears 2 = .ok (.invokevirtual 146, 3) := by decide +kernel
theorem dX11_hears_5 : decode cX11_hears 5 = .ok (.ifCond .eq 18, 3) := by decide +kernel
theorem dX11_hears_8 : decode cX11_hears 8 = .ok (.aload_n 0, 1) := by decide +kernel
theorem dX11_hears_9 : decode cX11_hears 9 = .ok (.getfield 49, 3) := by decide +kernel
theorem dX11_hears_12 : decode cX11_hears 12 = .ok (.aload_n 0, 1) := by decide +kernel
theorem dX11_hears_13 : decode cX11_hears 13 = .ok (.getfield 26, 3) := by decide +kernel
theorem dX11_hears_16 : decode cX11_hears 16 = .ok (.iload_n 1, 1) := by decide +kernel
theorem dX11_hears_17 : decode cX11_hears 17 = .ok (.invokevirtual 303, 3) := by decide +kernel
theorem dX11_hears_20 : decode cX11_hears 20 = .ok (.goto 5, 3) := by decide +kernel
theorem dX11_hears_23 : decode cX11_hears 23 = .ok (.bipush (-2), 2) := by decide +kernel
theorem dX11_hears_25 : decode cX11_hears 25 = .ok (.ireturn, 1) := by decide +kernel
theorem dX11_mutual_0 : decode cX11_mutual 0 = .ok (.aload_n 0, 1) := by decide +kernel
theorem dX11_mutual_1 : decode cX11_mutual 1 = .ok (.getfield 49, 3) := by decide +kernel
theorem dX11_mutual_4 : decode cX11_mutual 4 = .ok (.aload_n 0, 1) := by decide +kernel
theorem dX11_mutual_5 : decode cX11_mutual 5 = .ok (.getfield 26, 3) := by decide +kernel
theorem dX11_mutual_8 : decode cX11_mutual 8 = .ok (.invokevirtual 306, 3) := by decide +kernel
theorem dX11_mutual_11 : decode cX11_mutual 11 = .ok (.ireturn, 1) := by decide +kernel
theorem dX11_passes_0 : decode cX11_passes 0 = .ok (.aload_n 0, 1) := by decide +kernel
theorem dX11_passes_1 : decode cX11_passes 1 = .ok (.iload_n 1, 1) := by decide +kernel
theorem dX11_passes_2 : decode cX11_passes 2 = .ok (.invokevirtual 146, 3) := by decide +kernel
theorem dX11_passes_5 : decode cX11_passes 5 = .ok (.ifCond .eq 16, 3) := by decide +kernel
theorem dX11_passes_8 : decode cX11_passes 8 = .ok (.aload_n 0, 1) := by decide +kernel
theorem dX11_passes_9 : decode cX11_passes 9 = .ok (.iload_n 2, 1) := by decide +kernel
theorem dX11_passes_10 : decode cX11_passes 10 = .ok (.invokevirtual 146, 3) := by decide +kernel
theorem dX11_passes_13 : decode cX11_passes 13 = .ok (.ifCond .eq 8, 3) := by decide +kernel
theorem dX11_passes_16 : decode cX11_passes 16 = .ok (.iload_n 1, 1) := by decide +kernel
theorem dX11_passes_17 : decode cX11_passes 17 = .ok (.iload_n 2, 1) := by decide +kernel
theorem dX11_passes_18 : decode cX11_passes 18 = .ok (.if_icmp .ne 6, 3) := by decide +kernel
theorem dX11_passes_21 : decode cX11_passes 21 = .ok (.bipush (-2), 2) := by decide +kernel
theorem dX11_passes_23 : decode cX11_passes 23 = .ok (.ireturn, 1) := by decide +kernel
theorem dX11_passes_24 : decode cX11_passes 24 = .ok (.iconst 1, 1) := by decide +kernel
theorem dX11_passes_25 : decode cX11_passes 25 = .ok (.iload_n 1, 1) := by decide +kernel
theorem dX11_passes_26 : decode cX11_passes 26 = .ok (.ishl, 1) := by decide +kernel
theorem dX11_passes_27 : decode cX11_passes 27 = .ok (.istore_n 3, 1) := by decide +kernel
theorem dX11_passes_28 : decode cX11_passes 28 = .ok (.iconst 1, 1) := by decide +kernel
theorem dX11_passes_29 : decode cX11_passes 29 = .ok (.istore 4, 2) := by decide +kernel
theorem dX11_passes_31 : decode cX11_passes 31 = .ok (.iload 4, 2) := by decide +kernel
theorem dX11_passes_33 : decode cX11_passes 33 = .ok (.aload_n 0, 1) := by decide +kernel
theorem dX11_passes_34 : decode cX11_passes 34 = .ok (.getfield 26, 3) := by decide +kernel
theorem dX11_passes_37 : decode cX11_passes 37 = .ok (.getfield 278, 3) := by decide +kernel
theorem dX11_passes_40 : decode cX11_passes 40 = .ok (.if_icmp .ge 76, 3) := by decide +kernel
theorem dX11_passes_43 : decode cX11_passes 43 = .ok (.iload_n 3, 1) := by decide +kernel
theorem dX11_passes_44 : decode cX11_passes 44 = .ok (.istore 5, 2) := by decide +kernel
theorem dX11_passes_46 : decode cX11_passes 46 = .ok (.iconst 0, 1) := by decide +kernel
theorem dX11_passes_47 : decode cX11_passes 47 = .ok (.istore 6, 2) := by decide +kernel
theorem dX11_passes_49 : decode cX11_passes 49 = .ok (.iload 6, 2) := by decide +kernel
theorem dX11_passes_51 : decode cX11_passes 51 = .ok (.aload_n 0, 1) := by decide +kernel
theorem dX11_passes_52 : decode cX11_passes 52 = .ok (.getfield 26, 3) := by decide +kernel
theorem dX11_passes_55 : decode cX11_passes 55 = .ok (.getfield 278, 3) := by decide +kernel
theorem dX11_passes_58 : decode cX11_passes 58 = .ok (.if_icmp .ge 36, 3) := by decide +kernel
theorem dX11_passes_61 : decode cX11_passes 61 = .ok (.aload_n 0, 1) := by decide +kernel
theorem dX11_passes_62 : decode cX11_passes 62 = .ok (.getfield 49, 3) := by decide +kernel
theorem dX11_passes_65 : decode cX11_passes 65 = .ok (.aload_n 0, 1) := by decide +kernel
theorem dX11_passes_66 : decode cX11_passes 66 = .ok (.getfield 26, 3) := by decide +kernel
theorem dX11_passes_69 : decode cX11_passes 69 = .ok (.iload 6, 2) := by decide +kernel
theorem dX11_passes_71 : decode cX11_passes 71 = .ok (.invokevirtual 303, 3) := by decide +kernel
theorem dX11_passes_74 : decode cX11_passes 74 = .ok (.iload_n 3, 1) := by decide +kernel
theorem dX11_passes_75 : decode cX11_passes 75 = .ok (.iand, 1) := by decide +kernel
theorem dX11_passes_76 : decode cX11_passes 76 = .ok (.ifCond .eq 12, 3) := by decide +kernel
theorem dX11_passes_79 : decode cX11_passes 79 = .ok (.iload 5, 2) := by decide +kernel
theorem dX11_passes_81 : decode cX11_passes 81 = .ok (.iconst 1, 1) := by decide +kernel
theorem dX11_passes_82 : decode cX11_passes 82 = .ok (.iload 6, 2) := by decide +kernel
theorem dX11_passes_84 : decode cX11_passes 84 = .ok (.ishl, 1) := by decide +kernel
theorem dX11_passes_85 : decode cX11_passes 85 = .ok (.ior, 1) := by decide +kernel
theorem dX11_passes_86 : decode cX11_passes 86 = .ok (.istore 5, 2) := by decide +kernel
theorem dX11_passes_88 : decode cX11_passes 88 = .ok (.iinc 6 1, 3) := by decide +kernel
theorem dX11_passes_91 : decode cX11_passes 91 = .ok (.goto (-42), 3) := by decide +kernel
theorem dX11_passes_94 : decode cX11_passes 94 = .ok (.iload 5, 2) := by decide +kernel
theorem dX11_passes_96 : decode cX11_passes 96 = .ok (.iload_n 2, 1) := by decide +kernel
theorem dX11_passes_97 : decode cX11_passes 97 = .ok (.ishr, 1) := by decide +kernel
theorem dX11_passes_98 : decode cX11_passes 98 = .ok (.iconst 1, 1) := by decide +kernel
theorem dX11_passes_99 : decode cX11_passes 99 = .ok (.iand, 1) := by decide +kernel
theorem dX11_passes_100 : decode cX11_passes 100 = .ok (.iconst 1, 1) := by decide +kernel
theorem dX11_passes_101 : decode cX11_passes 101 = .ok (.if_icmp .ne 6, 3) := by decide +kernel
theorem dX11_passes_104 : decode cX11_passes 104 = .ok (.iload 4, 2) := by decide +kernel
theorem dX11_passes_106 : decode cX11_passes 106 = .ok (.ireturn, 1) := by decide +kernel
theorem dX11_passes_107 : decode cX11_passes 107 = .ok (.iload 5, 2) := by decide +kernel
theorem dX11_passes_109 : decode cX11_passes 109 = .ok (.istore_n 3, 1) := by decide +kernel
theorem dX11_passes_110 : decode cX11_passes 110 = .ok (.iinc 4 1, 3) := by decide +kernel
theorem dX11_passes_113 : decode cX11_passes 113 = .ok (.goto (-82), 3) := by decide +kernel
theorem dX11_passes_116 : decode cX11_passes 116 = .ok (.iconst (-1), 1) := by decide +kernel
theorem dX11_passes_117 : decode cX11_passes 117 = .ok (.ireturn, 1) := by decide +kernel
theorem dX11_gift_0 : decode cX11_gift 0 = .ok (.aload_n 0, 1) := by decide +kernel
theorem dX11_gift_1 : decode cX11_gift 1 = .ok (.getfield 53, 3) := by decide +kernel
theorem dX11_gift_4 : decode cX11_gift 4 = .ok (.aload_n 0, 1) := by decide +kernel
theorem dX11_gift_5 : decode cX11_gift 5 = .ok (.getfield 49, 3) := by decide +kernel
theorem dX11_gift_8 : decode cX11_gift 8 = .ok (.invokevirtual 236, 3) := by decide +kernel
theorem dX11_gift_11 : decode cX11_gift 11 = .ok (.aload_n 0, 1) := by decide +kernel
theorem dX11_gift_12 : decode cX11_gift 12 = .ok (.getfield 49, 3) := by decide +kernel
theorem dX11_gift_15 : decode cX11_gift 15 = .ok (.aload_n 0, 1) := by decide +kernel
theorem dX11_gift_16 : decode cX11_gift 16 = .ok (.getfield 26, 3) := by decide +kernel
theorem dX11_gift_19 : decode cX11_gift 19 = .ok (.invokevirtual 306, 3) := by decide +kernel
theorem dX11_gift_22 : decode cX11_gift 22 = .ok (.istore_n 1, 1) := by decide +kernel
theorem dX11_gift_23 : decode cX11_gift 23 = .ok (.iconst (-1), 1) := by decide +kernel
theorem dX11_gift_24 : decode cX11_gift 24 = .ok (.istore_n 2, 1) := by decide +kernel
theorem dX11_gift_25 : decode cX11_gift 25 = .ok (.iconst 0, 1) := by decide +kernel
theorem dX11_gift_26 : decode cX11_gift 26 = .ok (.istore_n 3, 1) := by decide +kernel
theorem dX11_gift_27 : decode cX11_gift 27 = .ok (.iload_n 3, 1) := by decide +kernel
theorem dX11_gift_28 : decode cX11_gift 28 = .ok (.aload_n 0, 1) := by decide +kernel
theorem dX11_gift_29 : decode cX11_gift 29 = .ok (.getfield 26, 3) := by decide +kernel
theorem dX11_gift_32 : decode cX11_gift 32 = .ok (.getfield 309, 3) := by decide +kernel
theorem dX11_gift_35 : decode cX11_gift 35 = .ok (.if_icmp .ge 103, 3) := by decide +kernel
theorem dX11_gift_38 : decode cX11_gift 38 = .ok (.iconst 0, 1) := by decide +kernel
theorem dX11_gift_39 : decode cX11_gift 39 = .ok (.istore 4, 2) := by decide +kernel
theorem dX11_gift_41 : decode cX11_gift 41 = .ok (.iload 4, 2) := by decide +kernel
theorem dX11_gift_43 : decode cX11_gift 43 = .ok (.aload_n 0, 1) := by decide +kernel
theorem dX11_gift_44 : decode cX11_gift 44 = .ok (.getfield 26, 3) := by decide +kernel
theorem dX11_gift_47 : decode cX11_gift 47 = .ok (.getfield 278, 3) := by decide +kernel
theorem dX11_gift_50 : decode cX11_gift 50 = .ok (.if_icmp .ge 64, 3) := by decide +kernel
theorem dX11_gift_53 : decode cX11_gift 53 = .ok (.aload_n 0, 1) := by decide +kernel
theorem dX11_gift_54 : decode cX11_gift 54 = .ok (.getfield 53, 3) := by decide +kernel
theorem dX11_gift_57 : decode cX11_gift 57 = .ok (.getfield 179, 3) := by decide +kernel
theorem dX11_gift_60 : decode cX11_gift 60 = .ok (.iload_n 3, 1) := by decide +kernel
theorem dX11_gift_61 : decode cX11_gift 61 = .ok (.iload 4, 2) := by decide +kernel
theorem dX11_gift_63 : decode cX11_gift 63 = .ok (.iastore, 1) := by decide +kernel
theorem dX11_gift_64 : decode cX11_gift 64 = .ok (.aload_n 0, 1) := by decide +kernel
theorem dX11_gift_65 : decode cX11_gift 65 = .ok (.getfield 53, 3) := by decide +kernel
theorem dX11_gift_68 : decode cX11_gift 68 = .ok (.aload_n 0, 1) := by decide +kernel
theorem dX11_gift_69 : decode cX11_gift 69 = .ok (.getfield 26, 3) := by decide +kernel
theorem dX11_gift_72 : decode cX11_gift 72 = .ok (.invokevirtual 306, 3) := by decide +kernel
theorem dX11_gift_75 : decode cX11_gift 75 = .ok (.istore 5, 2) := by decide +kernel
theorem dX11_gift_77 : decode cX11_gift 77 = .ok (.aload_n 0, 1) := by decide +kernel
theorem dX11_gift_78 : decode cX11_gift 78 = .ok (.getfield 49, 3) := by decide +kernel
theorem dX11_gift_81 : decode cX11_gift 81 = .ok (.getfield 179, 3) := by decide +kernel
theorem dX11_gift_84 : decode cX11_gift 84 = .ok (.iload_n 3, 1) := by decide +kernel
theorem dX11_gift_85 : decode cX11_gift 85 = .ok (.iaload, 1) := by decide +kernel
theorem dX11_gift_86 : decode cX11_gift 86 = .ok (.iload 4, 2) := by decide +kernel
theorem dX11_gift_88 : decode cX11_gift 88 = .ok (.if_icmp .eq 20, 3) := by decide +kernel
theorem dX11_gift_91 : decode cX11_gift 91 = .ok (.iload 5, 2) := by decide +kernel
theorem dX11_gift_93 : decode cX11_gift 93 = .ok (.iload_n 1, 1) := by decide +kernel
theorem dX11_gift_94 : decode cX11_gift 94 = .ok (.if_icmp .le 14, 3) := by decide +kernel
theorem dX11_gift_97 : decode cX11_gift 97 = .ok (.iload 5, 2) := by decide +kernel
theorem dX11_gift_99 : decode cX11_gift 99 = .ok (.istore_n 1, 1) := by decide +kernel
theorem dX11_gift_100 : decode cX11_gift 100 = .ok (.bipush 10, 2) := by decide +kernel
theorem dX11_gift_102 : decode cX11_gift 102 = .ok (.iload_n 3, 1) := by decide +kernel
theorem dX11_gift_103 : decode cX11_gift 103 = .ok (.imul, 1) := by decide +kernel
theorem dX11_gift_104 : decode cX11_gift 104 = .ok (.iload 4, 2) := by decide +kernel
theorem dX11_gift_106 : decode cX11_gift 106 = .ok (.iadd, 1) := by decide +kernel
theorem dX11_gift_107 : decode cX11_gift 107 = .ok (.istore_n 2, 1) := by decide +kernel
theorem dX11_gift_108 : decode cX11_gift 108 = .ok (.iinc 4 1, 3) := by decide +kernel
theorem dX11_gift_111 : decode cX11_gift 111 = .ok (.goto (-70), 3) := by decide +kernel
theorem dX11_gift_114 : decode cX11_gift 114 = .ok (.aload_n 0, 1) := by decide +kernel
theorem dX11_gift_115 : decode cX11_gift 115 = .ok (.getfield 53, 3) := by decide +kernel
theorem dX11_gift_118 : decode cX11_gift 118 = .ok (.getfield 179, 3) := by decide +kernel
theorem dX11_gift_121 : decode cX11_gift 121 = .ok (.iload_n 3, 1) := by decide +kernel
theorem dX11_gift_122 : decode cX11_gift 122 = .ok (.aload_n 0, 1) := by decide +kernel
theorem dX11_gift_123 : decode cX11_gift 123 = .ok (.getfield 49, 3) := by decide +kernel
theorem dX11_gift_126 : decode cX11_gift 126 = .ok (.getfield 179, 3) := by decide +kernel
theorem dX11_gift_129 : decode cX11_gift 129 = .ok (.iload_n 3, 1) := by decide +kernel
theorem dX11_gift_130 : decode cX11_gift 130 = .ok (.iaload, 1) := by decide +kernel
theorem dX11_gift_131 : decode cX11_gift 131 = .ok (.iastore, 1) := by decide +kernel
theorem dX11_gift_132 : decode cX11_gift 132 = .ok (.iinc 3 1, 3) := by decide +kernel
theorem dX11_gift_135 : decode cX11_gift 135 = .ok (.goto (-108), 3) := by decide +kernel
theorem dX11_gift_138 : decode cX11_gift 138 = .ok (.iload_n 2, 1) := by decide +kernel
theorem dX11_gift_139 : decode cX11_gift 139 = .ok (.ireturn, 1) := by decide +kernel
theorem dX11_fits_0 : decode cX11_fits 0 = .ok (.aload_n 0, 1) := by decide +kernel
theorem dX11_fits_1 : decode cX11_fits 1 = .ok (.iload_n 1, 1) := by decide +kernel
theorem dX11_fits_2 : decode cX11_fits 2 = .ok (.invokevirtual 312, 3) := by decide +kernel
theorem dX11_fits_5 : decode cX11_fits 5 = .ok (.istore_n 2, 1) := by decide +kernel
theorem dX11_fits_6 : decode cX11_fits 6 = .ok (.iload_n 2, 1) := by decide +kernel
theorem dX11_fits_7 : decode cX11_fits 7 = .ok (.ifCond .ne 16, 3) := by decide +kernel
theorem dX11_fits_10 : decode cX11_fits 10 = .ok (.aload_n 0, 1) := by decide +kernel
theorem dX11_fits_11 : decode cX11_fits 11 = .ok (.aload_n 0, 1) := by decide +kernel
theorem dX11_fits_12 : decode cX11_fits 12 = .ok (.getfield 81, 3) := by decide +kernel
theorem dX11_fits_15 : decode cX11_fits 15 = .ok (.iload_n 1, 1) := by decide +kernel
theorem dX11_fits_16 : decode cX11_fits 16 = .ok (.aaload, 1) := by decide +kernel
theorem dX11_fits_17 : decode cX11_fits 17 = .ok (.invokevirtual 315, 3) := by decide +kernel
theorem dX11_fits_20 : decode cX11_fits 20 = .ok (.goto 4, 3) := by decide +kernel
theorem dX11_fits_23 : decode cX11_fits 23 = .ok (.iload_n 2, 1) := by decide +kernel
theorem dX11_fits_24 : decode cX11_fits 24 = .ok (.ireturn, 1) := by decide +kernel
theorem dX11_slips_0 : decode cX11_slips 0 = .ok (.aload_n 0, 1) := by decide +kernel
theorem dX11_slips_1 : decode cX11_slips 1 = .ok (.iload_n 2, 1) := by decide +kernel
theorem dX11_slips_2 : decode cX11_slips 2 = .ok (.invokevirtual 194, 3) := by decide +kernel
theorem dX11_slips_5 : decode cX11_slips 5 = .ok (.ifCond .ne 6, 3) := by decide +kernel
theorem dX11_slips_8 : decode cX11_slips 8 = .ok (.bipush (-2), 2) := by decide +kernel
theorem dX11_slips_10 : decode cX11_slips 10 = .ok (.ireturn, 1) := by decide +kernel
theorem dX11_slips_11 : decode cX11_slips 11 = .ok (.aload_n 0, 1) := by decide +kernel
theorem dX11_slips_12 : decode cX11_slips 12 = .ok (.iload_n 1, 1) := by decide +kernel
theorem dX11_slips_13 : decode cX11_slips 13 = .ok (.invokevirtual 312, 3) := by decide +kernel
theorem dX11_slips_16 : decode cX11_slips 16 = .ok (.istore_n 3, 1) := by decide +kernel
theorem dX11_slips_17 : decode cX11_slips 17 = .ok (.iload_n 3, 1) := by decide +kernel
theorem dX11_slips_18 : decode cX11_slips 18 = .ok (.ifCond .ne 17, 3) := by decide +kernel
theorem dX11_slips_21 : decode cX11_slips 21 = .ok (.aload_n 0, 1) := by decide +kernel
theorem dX11_slips_22 : decode cX11_slips 22 = .ok (.aload_n 0, 1) := by decide +kernel
theorem dX11_slips_23 : decode cX11_slips 23 = .ok (.getfield 81, 3) := by decide +kernel
theorem dX11_slips_26 : decode cX11_slips 26 = .ok (.iload_n 1, 1) := by decide +kernel
theorem dX11_slips_27 : decode cX11_slips 27 = .ok (.aaload, 1) := by decide +kernel
theorem dX11_slips_28 : decode cX11_slips 28 = .ok (.iload_n 2, 1) := by decide +kernel
theorem dX11_slips_29 : decode cX11_slips 29 = .ok (.invokevirtual 319, 3) := by decide +kernel
theorem dX11_slips_32 : decode cX11_slips 32 = .ok (.goto 4, 3) := by decide +kernel
theorem dX11_slips_35 : decode cX11_slips 35 = .ok (.iload_n 3, 1) := by decide +kernel
theorem dX11_slips_36 : decode cX11_slips 36 = .ok (.ireturn, 1) := by decide +kernel
theorem dX11_likeliest_0 : decode cX11_likeliest 0 = .ok (.aload_n 0, 1) := by decide +kernel
theorem dX11_likeliest_1 : decode cX11_likeliest 1 = .ok (.iload_n 1, 1) := by decide +kernel
theorem dX11_likeliest_2 : decode cX11_likeliest 2 = .ok (.invokevirtual 312, 3) := by decide +kernel
theorem dX11_likeliest_5 : decode cX11_likeliest 5 = .ok (.istore_n 2, 1) := by decide +kernel
theorem dX11_likeliest_6 : decode cX11_likeliest 6 = .ok (.iload_n 2, 1) := by decide +kernel
theorem dX11_likeliest_7 : decode cX11_likeliest 7 = .ok (.ifCond .eq 5, 3) := by decide +kernel
theorem dX11_likeliest_10 : decode cX11_likeliest 10 = .ok (.iload_n 2, 1) := by decide +kernel
theorem dX11_likeliest_11 : decode cX11_likeliest 11 = .ok (.ireturn, 1) := by decide +kernel
theorem dX11_likeliest_12 : decode cX11_likeliest 12 = .ok (.iconst (-1), 1) := by decide +kernel
theorem dX11_likeliest_13 : decode cX11_likeliest 13 = .ok (.istore_n 3, 1) := by decide +kernel
theorem dX11_likeliest_14 : decode cX11_likeliest 14 = .ok (.bipush 25, 2) := by decide +kernel
theorem dX11_likeliest_16 : decode cX11_likeliest 16 = .ok (.istore 4, 2) := by decide +kernel
theorem dX11_likeliest_18 : decode cX11_likeliest 18 = .ok (.iconst 0, 1) := by decide +kernel
theorem dX11_likeliest_19 : decode cX11_likeliest 19 = .ok (.istore 5, 2) := by decide +kernel
theorem dX11_likeliest_21 : decode cX11_likeliest 21 = .ok (.iload 5, 2) := by decide +kernel
theorem dX11_likeliest_23 : decode cX11_likeliest 23 = .ok (.aload_n 0, 1) := by decide +kernel
theorem dX11_likeliest_24 : decode cX11_likeliest 24 = .ok (.getfield 26, 3) := by decide +kernel
theorem dX11_likeliest_27 : decode cX11_likeliest 27 = .ok (.getfield 281, 3) := by decide +kernel
theorem dX11_likeliest_30 : decode cX11_likeliest 30 = .ok (.if_icmp .ge 37, 3) := by decide +kernel
theorem dX11_likeliest_33 : decode cX11_likeliest 33 = .ok (.aload_n 0, 1) := by decide +kernel
theorem dX11_likeliest_34 : decode cX11_likeliest 34 = .ok (.aload_n 0, 1) := by decide +kernel
theorem dX11_likeliest_35 : decode cX11_likeliest 35 = .ok (.getfield 81, 3) := by decide +kernel
theorem dX11_likeliest_38 : decode cX11_likeliest 38 = .ok (.iload_n 1, 1) := by decide +kernel
theorem dX11_likeliest_39 : decode cX11_likeliest 39 = .ok (.aaload, 1) := by decide +kernel
theorem dX11_likeliest_40 : decode cX11_likeliest 40 = .ok (.iload 5, 2) := by decide +kernel
theorem dX11_likeliest_42 : decode cX11_likeliest 42 = .ok (.invokevirtual 319, 3) := by decide +kernel
theorem dX11_likeliest_45 : decode cX11_likeliest 45 = .ok (.istore 6, 2) := by decide +kernel
theorem dX11_likeliest_47 : decode cX11_likeliest 47 = .ok (.iload 6, 2) := by decide +kernel
theorem dX11_likeliest_49 : decode cX11_likeliest 49 = .ok (.iload 4, 2) := by decide +kernel
theorem dX11_likeliest_51 : decode cX11_likeliest 51 = .ok (.if_icmp .ge 10, 3) := by decide +kernel
theorem dX11_likeliest_54 : decode cX11_likeliest 54 = .ok (.iload 6, 2) := by decide +kernel
theorem dX11_likeliest_56 : decode cX11_likeliest 56 = .ok (.istore 4, 2) := by decide +kernel
theorem dX11_likeliest_58 : decode cX11_likeliest 58 = .ok (.iload 5, 2) := by decide +kernel
theorem dX11_likeliest_60 : decode cX11_likeliest 60 = .ok (.istore_n 3, 1) := by decide +kernel
theorem dX11_likeliest_61 : decode cX11_likeliest 61 = .ok (.iinc 5 1, 3) := by decide +kernel
theorem dX11_likeliest_64 : decode cX11_likeliest 64 = .ok (.goto (-43), 3) := by decide +kernel
theorem dX11_likeliest_67 : decode cX11_likeliest 67 = .ok (.iload_n 3, 1) := by decide +kernel
theorem dX11_likeliest_68 : decode cX11_likeliest 68 = .ok (.ireturn, 1) := by decide +kernel
theorem dX11_look_0 : decode cX11_look 0 = .ok (.aload_n 0, 1) := by decide +kernel
theorem dX11_look_1 : decode cX11_look 1 = .ok (.iload_n 1, 1) := by decide +kernel
theorem dX11_look_2 : decode cX11_look 2 = .ok (.invokevirtual 312, 3) := by decide +kernel
theorem dX11_look_5 : decode cX11_look 5 = .ok (.istore_n 2, 1) := by decide +kernel
theorem dX11_look_6 : decode cX11_look 6 = .ok (.iload_n 2, 1) := by decide +kernel
theorem dX11_look_7 : decode cX11_look 7 = .ok (.ifCond .eq 5, 3) := by decide +kernel
theorem dX11_look_10 : decode cX11_look 10 = .ok (.iload_n 2, 1) := by decide +kernel
theorem dX11_look_11 : decode cX11_look 11 = .ok (.ireturn, 1) := by decide +kernel
theorem dX11_look_12 : decode cX11_look 12 = .ok (.aload_n 0, 1) := by decide +kernel
theorem dX11_look_13 : decode cX11_look 13 = .ok (.aload_n 0, 1) := by decide +kernel
theorem dX11_look_14 : decode cX11_look 14 = .ok (.getfield 81, 3) := by decide +kernel
theorem dX11_look_17 : decode cX11_look 17 = .ok (.iload_n 1, 1) := by decide +kernel
theorem dX11_look_18 : decode cX11_look 18 = .ok (.aaload, 1) := by decide +kernel
theorem dX11_look_19 : decode cX11_look 19 = .ok (.invokevirtual 315, 3) := by decide +kernel
theorem dX11_look_22 : decode cX11_look 22 = .ok (.istore_n 3, 1) := by decide +kernel
theorem dX11_look_23 : decode cX11_look 23 = .ok (.iload_n 3, 1) := by decide +kernel
theorem dX11_look_24 : decode cX11_look 24 = .ok (.ifCond .ne 5, 3) := by decide +kernel
theorem dX11_look_27 : decode cX11_look 27 = .ok (.iconst (-1), 1) := by decide +kernel
theorem dX11_look_28 : decode cX11_look 28 = .ok (.ireturn, 1) := by decide +kernel
theorem dX11_look_29 : decode cX11_look 29 = .ok (.iconst (-1), 1) := by decide +kernel
theorem dX11_look_30 : decode cX11_look 30 = .ok (.istore 4, 2) := by decide +kernel
theorem dX11_look_32 : decode cX11_look 32 = .ok (.bipush 7, 2) := by decide +kernel
theorem dX11_look_34 : decode cX11_look 34 = .ok (.istore 5, 2) := by decide +kernel
theorem dX11_look_36 : decode cX11_look 36 = .ok (.iconst 0, 1) := by decide +kernel
theorem dX11_look_37 : decode cX11_look 37 = .ok (.istore 6, 2) := by decide +kernel
theorem dX11_look_39 : decode cX11_look 39 = .ok (.iload 6, 2) := by decide +kernel
theorem dX11_look_41 : decode cX11_look 41 = .ok (.bipush 99, 2) := by decide +kernel
theorem dX11_look_43 : decode cX11_look 43 = .ok (.if_icmp .gt 33, 3) := by decide +kernel
theorem dX11_look_46 : decode cX11_look 46 = .ok (.aload_n 0, 1) := by decide +kernel
theorem dX11_look_47 : decode cX11_look 47 = .ok (.iload_n 3, 1) := by decide +kernel
theorem dX11_look_48 : decode cX11_look 48 = .ok (.iload 6, 2) := by decide +kernel
theorem dX11_look_50 : decode cX11_look 50 = .ok (.invokevirtual 323, 3) := by decide +kernel
theorem dX11_look_53 : decode cX11_look 53 = .ok (.istore 7, 2) := by decide +kernel
theorem dX11_look_55 : decode cX11_look 55 = .ok (.iload 7, 2) := by decide +kernel
theorem dX11_look_57 : decode cX11_look 57 = .ok (.iload 5, 2) := by decide +kernel
theorem dX11_look_59 : decode cX11_look 59 = .ok (.if_icmp .ge 11, 3) := by decide +kernel
theorem dX11_look_62 : decode cX11_look 62 = .ok (.iload 7, 2) := by decide +kernel
theorem dX11_look_64 : decode cX11_look 64 = .ok (.istore 5, 2) := by decide +kernel
theorem dX11_look_66 : decode cX11_look 66 = .ok (.iload 6, 2) := by decide +kernel
theorem dX11_look_68 : decode cX11_look 68 = .ok (.istore 4, 2) := by decide +kernel
theorem dX11_look_70 : decode cX11_look 70 = .ok (.iinc 6 1, 3) := by decide +kernel
theorem dX11_look_73 : decode cX11_look 73 = .ok (.goto (-34), 3) := by decide +kernel
theorem dX11_look_76 : decode cX11_look 76 = .ok (.iload 4, 2) := by decide +kernel
theorem dX11_look_78 : decode cX11_look 78 = .ok (.ireturn, 1) := by decide +kernel
theorem dX11_unlike_0 : decode cX11_unlike 0 = .ok (.aload_n 0, 1) := by decide +kernel
theorem dX11_unlike_1 : decode cX11_unlike 1 = .ok (.iload_n 1, 1) := by decide +kernel
theorem dX11_unlike_2 : decode cX11_unlike 2 = .ok (.invokevirtual 194, 3) := by decide +kernel
theorem dX11_unlike_5 : decode cX11_unlike 5 = .ok (.ifCond .eq 11, 3) := by decide +kernel
theorem dX11_unlike_8 : decode cX11_unlike 8 = .ok (.aload_n 0, 1) := by decide +kernel
theorem dX11_unlike_9 : decode cX11_unlike 9 = .ok (.iload_n 2, 1) := by decide +kernel
theorem dX11_unlike_10 : decode cX11_unlike 10 = .ok (.invokevirtual 194, 3) := by decide +kernel
theorem dX11_unlike_13 : decode cX11_unlike 13 = .ok (.ifCond .ne 6, 3) := by decide +kernel
theorem dX11_unlike_16 : decode cX11_unlike 16 = .ok (.bipush (-2), 2) := by decide +kernel
theorem dX11_unlike_18 : decode cX11_unlike 18 = .ok (.ireturn, 1) := by decide +kernel
theorem dX11_unlike_19 : decode cX11_unlike 19 = .ok (.aload_n 0, 1) := by decide +kernel
theorem dX11_unlike_20 : decode cX11_unlike 20 = .ok (.iload_n 1, 1) := by decide +kernel
theorem dX11_unlike_21 : decode cX11_unlike 21 = .ok (.iload_n 2, 1) := by decide +kernel
theorem dX11_unlike_22 : decode cX11_unlike 22 = .ok (.invokevirtual 326, 3) := by decide +kernel
theorem dX11_unlike_25 : decode cX11_unlike 25 = .ok (.ireturn, 1) := by decide +kernel
theorem dX11_pairs_0 : decode cX11_pairs 0 = .ok (.iload_n 1, 1) := by decide +kernel
theorem dX11_pairs_1 : decode cX11_pairs 1 = .ok (.bipush 10, 2) := by decide +kernel
theorem dX11_pairs_3 : decode cX11_pairs 3 = .ok (.if_icmp .ge 7, 3) := by decide +kernel
theorem dX11_pairs_6 : decode cX11_pairs 6 = .ok (.iconst (-1), 1) := by decide +kernel
theorem dX11_pairs_7 : decode cX11_pairs 7 = .ok (.goto 7, 3) := by decide +kernel
theorem dX11_pairs_10 : decode cX11_pairs 10 = .ok (.iload_n 1, 1) := by decide +kernel
theorem dX11_pairs_11 : decode cX11_pairs 11 = .ok (.bipush 10, 2) := by decide +kernel
theorem dX11_pairs_13 : decode cX11_pairs 13 = .ok (.isub, 1) := by decide +kernel
theorem dX11_pairs_14 : decode cX11_pairs 14 = .ok (.istore_n 2, 1) := by decide +kernel
theorem dX11_pairs_15 : decode cX11_pairs 15 = .ok (.iload_n 1, 1) := by decide +kernel
theorem dX11_pairs_16 : decode cX11_pairs 16 = .ok (.ifCond .eq 14, 3) := by decide +kernel
theorem dX11_pairs_19 : decode cX11_pairs 19 = .ok (.aload_n 0, 1) := by decide +kernel
theorem dX11_pairs_20 : decode cX11_pairs 20 = .ok (.iload_n 2, 1) := by decide +kernel
theorem dX11_pairs_21 : decode cX11_pairs 21 = .ok (.invokevirtual 173, 3) := by decide +kernel
theorem dX11_pairs_24 : decode cX11_pairs 24 = .ok (.ifCond .ne 6, 3) := by decide +kernel
theorem dX11_pairs_27 : decode cX11_pairs 27 = .ok (.bipush (-2), 2) := by decide +kernel
theorem dX11_pairs_29 : decode cX11_pairs 29 = .ok (.ireturn, 1) := by decide +kernel
theorem dX11_pairs_30 : decode cX11_pairs 30 = .ok (.iconst 0, 1) := by decide +kernel
theorem dX11_pairs_31 : decode cX11_pairs 31 = .ok (.istore_n 3, 1) := by decide +kernel
theorem dX11_pairs_32 : decode cX11_pairs 32 = .ok (.iload_n 3, 1) := by decide +kernel
theorem dX11_pairs_33 : decode cX11_pairs 33 = .ok (.aload_n 0, 1) := by decide +kernel
theorem dX11_pairs_34 : decode cX11_pairs 34 = .ok (.getfield 26, 3) := by decide +kernel
theorem dX11_pairs_37 : decode cX11_pairs 37 = .ok (.getfield 309, 3) := by decide +kernel
theorem dX11_pairs_40 : decode cX11_pairs 40 = .ok (.if_icmp .ge 65, 3) := by decide +kernel
theorem dX11_pairs_43 : decode cX11_pairs 43 = .ok (.iload_n 3, 1) := by decide +kernel
theorem dX11_pairs_44 : decode cX11_pairs 44 = .ok (.iconst 1, 1) := by decide +kernel
theorem dX11_pairs_45 : decode cX11_pairs 45 = .ok (.iadd, 1) := by decide +kernel
theorem dX11_pairs_46 : decode cX11_pairs 46 = .ok (.istore 4, 2) := by decide +kernel
theorem dX11_pairs_48 : decode cX11_pairs 48 = .ok (.iload 4, 2) := by decide +kernel
theorem dX11_pairs_50 : decode cX11_pairs 50 = .ok (.aload_n 0, 1) := by decide +kernel
theorem dX11_pairs_51 : decode cX11_pairs 51 = .ok (.getfield 26, 3) := by decide +kernel
theorem dX11_pairs_54 : decode cX11_pairs 54 = .ok (.getfield 309, 3) := by decide +kernel
theorem dX11_pairs_57 : decode cX11_pairs 57 = .ok (.if_icmp .ge 42, 3) := by decide +kernel
theorem dX11_pairs_60 : decode cX11_pairs 60 = .ok (.aload_n 0, 1) := by decide +kernel
theorem dX11_pairs_61 : decode cX11_pairs 61 = .ok (.getfield 75, 3) := by decide +kernel
theorem dX11_pairs_64 : decode cX11_pairs 64 = .ok (.iload_n 3, 1) := by decide +kernel
theorem dX11_pairs_65 : decode cX11_pairs 65 = .ok (.iload 4, 2) := by decide +kernel
theorem dX11_pairs_67 : decode cX11_pairs 67 = .ok (.aload_n 0, 1) := by decide +kernel
theorem dX11_pairs_68 : decode cX11_pairs 68 = .ok (.aload_n 0, 1) := by decide +kernel
theorem dX11_pairs_69 : decode cX11_pairs 69 = .ok (.getfield 26, 3) := by decide +kernel
theorem dX11_pairs_72 : decode cX11_pairs 72 = .ok (.getfield 176, 3) := by decide +kernel
theorem dX11_pairs_75 : decode cX11_pairs 75 = .ok (.iload_n 3, 1) := by decide +kernel
theorem dX11_pairs_76 : decode cX11_pairs 76 = .ok (.iaload, 1) := by decide +kernel
theorem dX11_pairs_77 : decode cX11_pairs 77 = .ok (.aload_n 0, 1) := by decide +kernel
theorem dX11_pairs_78 : decode cX11_pairs 78 = .ok (.getfield 26, 3) := by decide +kernel
theorem dX11_pairs_81 : decode cX11_pairs 81 = .ok (.getfield 176, 3) := by decide +kernel
theorem dX11_pairs_84 : decode cX11_pairs 84 = .ok (.iload 4, 2) := by decide +kernel
theorem dX11_pairs_86 : decode cX11_pairs 86 = .ok (.iaload, 1) := by decide +kernel
theorem dX11_pairs_87 : decode cX11_pairs 87 = .ok (.invokevirtual 326, 3) := by decide +kernel
theorem dX11_pairs_90 : decode cX11_pairs 90 = .ok (.invokevirtual 329, 3) := by decide +kernel
theorem dX11_pairs_93 : decode cX11_pairs 93 = .ok (.iinc 4 1, 3) := by decide +kernel
theorem dX11_pairs_96 : decode cX11_pairs 96 = .ok (.goto (-48), 3) := by decide +kernel
theorem dX11_pairs_99 : decode cX11_pairs 99 = .ok (.iinc 3 1, 3) := by decide +kernel
theorem dX11_pairs_102 : decode cX11_pairs 102 = .ok (.goto (-70), 3) := by decide +kernel
theorem dX11_pairs_105 : decode cX11_pairs 105 = .ok (.aload_n 0, 1) := by decide +kernel
theorem dX11_pairs_106 : decode cX11_pairs 106 = .ok (.getfield 75, 3) := by decide +kernel
theorem dX11_pairs_109 : decode cX11_pairs 109 = .ok (.aload_n 0, 1) := by decide +kernel
theorem dX11_pairs_110 : decode cX11_pairs 110 = .ok (.getfield 26, 3) := by decide +kernel
theorem dX11_pairs_113 : decode cX11_pairs 113 = .ok (.getfield 309, 3) := by decide +kernel
theorem dX11_pairs_116 : decode cX11_pairs 116 = .ok (.invokevirtual 332, 3) := by decide +kernel
theorem dX11_pairs_119 : decode cX11_pairs 119 = .ok (.iload_n 1, 1) := by decide +kernel
theorem dX11_pairs_120 : decode cX11_pairs 120 = .ok (.ifCond .ne 13, 3) := by decide +kernel
theorem dX11_pairs_123 : decode cX11_pairs 123 = .ok (.aload_n 0, 1) := by decide +kernel
theorem dX11_pairs_124 : decode cX11_pairs 124 = .ok (.getfield 75, 3) := by decide +kernel
theorem dX11_pairs_127 : decode cX11_pairs 127 = .ok (.getfield 335, 3) := by decide +kernel
theorem dX11_pairs_130 : decode cX11_pairs 130 = .ok (.goto 12, 3) := by decide +kernel
theorem dX11_pairs_133 : decode cX11_pairs 133 = .ok (.aload_n 0, 1) := by decide +kernel
theorem dX11_pairs_134 : decode cX11_pairs 134 = .ok (.getfield 75, 3) := by decide +kernel
theorem dX11_pairs_137 : decode cX11_pairs 137 = .ok (.getfield 338, 3) := by decide +kernel
theorem dX11_pairs_140 : decode cX11_pairs 140 = .ok (.iload_n 2, 1) := by decide +kernel
theorem dX11_pairs_141 : decode cX11_pairs 141 = .ok (.iaload, 1) := by decide +kernel
theorem dX11_pairs_142 : decode cX11_pairs 142 = .ok (.ireturn, 1) := by decide +kernel
theorem dX11_numbers_0 : decode cX11_numbers 0 = .ok (.aload_n 0, 1) := by decide +kernel
theorem dX11_numbers_1 : decode cX11_numbers 1 = .ok (.iload_n 1, 1) := by decide +kernel
theorem dX11_numbers_2 : decode cX11_numbers 2 = .ok (.invokevirtual 229, 3) := by decide +kernel
theorem dX11_numbers_5 : decode cX11_numbers 5 = .ok (.ifCond .eq 12, 3) := by decide +kernel
theorem dX11_numbers_8 : decode cX11_numbers 8 = .ok (.iload_n 2, 1) := by decide +kernel
theorem dX11_numbers_9 : decode cX11_numbers 9 = .ok (.iconst 0, 1) := by decide +kernel
theorem dX11_numbers_10 : decode cX11_numbers 10 = .ok (.iconst 3, 1) := by decide +kernel
theorem dX11_numbers_11 : decode cX11_numbers 11 = .ok (.invokestatic 197, 3) := by decide +kernel
theorem dX11_numbers_14 : decode cX11_numbers 14 = .ok (.ifCond .ne 6, 3) := by decide +kernel
theorem dX11_numbers_17 : decode cX11_numbers 17 = .ok (.bipush (-2), 2) := by decide +kernel
theorem dX11_numbers_19 : decode cX11_numbers 19 = .ok (.ireturn, 1) := by decide +kernel
theorem dX11_numbers_20 : decode cX11_numbers 20 = .ok (.iload_n 3, 1) := by decide +kernel
theorem dX11_numbers_21 : decode cX11_numbers 21 = .ok (.iconst 0, 1) := by decide +kernel
theorem dX11_numbers_22 : decode cX11_numbers 22 = .ok (.bipush 40, 2) := by decide +kernel
theorem dX11_numbers_24 : decode cX11_numbers 24 = .ok (.invokestatic 197, 3) := by decide +kernel
theorem dX11_numbers_27 : decode cX11_numbers 27 = .ok (.ifCond .ne 6, 3) := by decide +kernel
theorem dX11_numbers_30 : decode cX11_numbers 30 = .ok (.bipush (-3), 2) := by decide +kernel
theorem dX11_numbers_32 : decode cX11_numbers 32 = .ok (.ireturn, 1) := by decide +kernel
theorem dX11_numbers_33 : decode cX11_numbers 33 = .ok (.aload_n 0, 1) := by decide +kernel
theorem dX11_numbers_34 : decode cX11_numbers 34 = .ok (.getfield 81, 3) := by decide +kernel
theorem dX11_numbers_37 : decode cX11_numbers 37 = .ok (.iload_n 1, 1) := by decide +kernel
theorem dX11_numbers_38 : decode cX11_numbers 38 = .ok (.aaload, 1) := by decide +kernel
theorem dX11_numbers_39 : decode cX11_numbers 39 = .ok (.iload_n 2, 1) := by decide +kernel
theorem dX11_numbers_40 : decode cX11_numbers 40 = .ok (.iload_n 3, 1) := by decide +kernel
theorem dX11_numbers_41 : decode cX11_numbers 41 = .ok (.invokevirtual 341, 3) := by decide +kernel
theorem dX11_numbers_44 : decode cX11_numbers 44 = .ok (.iconst 0, 1) := by decide +kernel
theorem dX11_numbers_45 : decode cX11_numbers 45 = .ok (.ireturn, 1) := by decide +kernel
theorem dX11_write_0 : decode cX11_write 0 = .ok (.aload_n 0, 1) := by decide +kernel
theorem dX11_write_1 : decode cX11_write 1 = .ok (.iload_n 1, 1) := by decide +kernel
theorem dX11_write_2 : decode cX11_write 2 = .ok (.invokevirtual 229, 3) := by decide +kernel
theorem dX11_write_5 : decode cX11_write 5 = .ok (.ifCond .ne 7, 3) := by decide +kernel
theorem dX11_write_8 : decode cX11_write 8 = .ok (.ldc2_w 344, 3) := by decide +kernel
theorem dX11_write_11 : decode cX11_write 11 = .ok (.lreturn, 1) := by decide +kernel
theorem dX11_write_12 : decode cX11_write 12 = .ok (.aload_n 0, 1) := by decide +kernel
theorem dX11_write_13 : decode cX11_write 13 = .ok (.getfield 81, 3) := by decide +kernel
theorem dX11_write_16 : decode cX11_write 16 = .ok (.iload_n 1, 1) := by decide +kernel
theorem dX11_write_17 : decode cX11_write 17 = .ok (.aaload, 1) := by decide +kernel
theorem dX11_write_18 : decode cX11_write 18 = .ok (.invokevirtual 232, 3) := by decide +kernel
theorem dX11_write_21 : decode cX11_write 21 = .ok (.ifCond .eq 7, 3) := by decide +kernel
theorem dX11_write_24 : decode cX11_write 24 = .ok (.ldc2_w 346, 3) := by decide +kernel
theorem dX11_write_27 : decode cX11_write 27 = .ok (.lreturn, 1) := by decide +kernel
theorem dX11_write_28 : decode cX11_write 28 = .ok (.iload_n 2, 1) := by decide +kernel
theorem dX11_write_29 : decode cX11_write 29 = .ok (.iconst 0, 1) := by decide +kernel
theorem dX11_write_30 : decode cX11_write 30 = .ok (.aload_n 0, 1) := by decide +kernel
theorem dX11_write_31 : decode cX11_write 31 = .ok (.getfield 81, 3) := by decide +kernel
theorem dX11_write_34 : decode cX11_write 34 = .ok (.iload_n 1, 1) := by decide +kernel
theorem dX11_write_35 : decode cX11_write 35 = .ok (.aaload, 1) := by decide +kernel
theorem dX11_write_36 : decode cX11_write 36 = .ok (.getfield 242, 3) := by decide +kernel
theorem dX11_write_39 : decode cX11_write 39 = .ok (.iconst 1, 1) := by decide +kernel
theorem dX11_write_40 : decode cX11_write 40 = .ok (.isub, 1) := by decide +kernel
theorem dX11_write_41 : decode cX11_write 41 = .ok (.invokestatic 197, 3) := by decide +kernel
theorem dX11_write_44 : decode cX11_write 44 = .ok (.ifCond .ne 7, 3) := by decide +kernel
theorem dX11_write_47 : decode cX11_write 47 = .ok (.ldc2_w 348, 3) := by decide +kernel
theorem dX11_write_50 : decode cX11_write 50 = .ok (.lreturn, 1) := by decide +kernel
theorem dX11_write_51 : decode cX11_write 51 = .ok (.aload_n 0, 1) := by decide +kernel
theorem dX11_write_52 : decode cX11_write 52 = .ok (.getfield 81, 3) := by decide +kernel
theorem dX11_write_55 : decode cX11_write 55 = .ok (.iload_n 1, 1) := by decide +kernel
theorem dX11_write_56 : decode cX11_write 56 = .ok (.aaload, 1) := by decide +kernel
theorem dX11_write_57 : decode cX11_write 57 = .ok (.iload_n 2, 1) := by decide +kernel
theorem dX11_write_58 : decode cX11_write 58 = .ok (.lload_n 3, 1) := by decide +kernel
theorem dX11_write_59 : decode cX11_write 59 = .ok (.invokevirtual 350, 3) := by decide +kernel
theorem dX11_write_62 : decode cX11_write 62 = .ok (.lreturn, 1) := by decide +kernel
theorem dX11_lists_0 : decode cX11_lists 0 = .ok (.aload_n 0, 1) := by decide +kernel
theorem dX11_lists_1 : decode cX11_lists 1 = .ok (.iload_n 1, 1) := by decide +kernel
theorem dX11_lists_2 : decode cX11_lists 2 = .ok (.invokevirtual 229, 3) := by decide +kernel
theorem dX11_lists_5 : decode cX11_lists 5 = .ok (.ifCond .eq 11, 3) := by decide +kernel
theorem dX11_lists_8 : decode cX11_lists 8 = .ok (.aload_n 0, 1) := by decide +kernel
theorem dX11_lists_9 : decode cX11_lists 9 = .ok (.iload_n 2, 1) := by decide +kernel
theorem dX11_lists_10 : decode cX11_lists 10 = .ok (.invokevirtual 173, 3) := by decide +kernel
theorem dX11_lists_13 : decode cX11_lists 13 = .ok (.ifCond .ne 6, 3) := by decide +kernel
theorem dX11_lists_16 : decode cX11_lists 16 = .ok (.bipush (-2), 2) := by decide +kernel
theorem dX11_lists_18 : decode cX11_lists 18 = .ok (.ireturn, 1) := by decide +kernel
theorem dX11_lists_19 : decode cX11_lists 19 = .ok (.aload_n 0, 1) := by decide +kernel
theorem dX11_lists_20 : decode cX11_lists 20 = .ok (.getfield 81, 3) := by decide +kernel
theorem dX11_lists_23 : decode cX11_lists 23 = .ok (.iload_n 1, 1) := by decide +kernel
theorem dX11_lists_24 : decode cX11_lists 24 = .ok (.aaload, 1) := by decide +kernel
theorem dX11_lists_25 : decode cX11_lists 25 = .ok (.invokevirtual 232, 3) := by decide +kernel
theorem dX11_lists_28 : decode cX11_lists 28 = .ok (.ifCond .eq 6, 3) := by decide +kernel
theorem dX11_lists_31 : decode cX11_lists 31 = .ok (.bipush (-6), 2) := by decide +kernel
theorem dX11_lists_33 : decode cX11_lists 33 = .ok (.ireturn, 1) := by decide +kernel
theorem dX11_lists_34 : decode cX11_lists 34 = .ok (.aload_n 0, 1) := by decide +kernel
theorem dX11_lists_35 : decode cX11_lists 35 = .ok (.getfield 81, 3) := by decide +kernel
theorem dX11_lists_38 : decode cX11_lists 38 = .ok (.iload_n 1, 1) := by decide +kernel
theorem dX11_lists_39 : decode cX11_lists 39 = .ok (.aaload, 1) := by decide +kernel
theorem dX11_lists_40 : decode cX11_lists 40 = .ok (.getfield 242, 3) := by decide +kernel
theorem dX11_lists_43 : decode cX11_lists 43 = .ok (.istore_n 3, 1) := by decide +kernel
theorem dX11_lists_44 : decode cX11_lists 44 = .ok (.iconst 0, 1) := by decide +kernel
theorem dX11_lists_45 : decode cX11_lists 45 = .ok (.istore 4, 2) := by decide +kernel
theorem dX11_lists_47 : decode cX11_lists 47 = .ok (.iload 4, 2) := by decide +kernel
theorem dX11_lists_49 : decode cX11_lists 49 = .ok (.iload_n 3, 1) := by decide +kernel
theorem dX11_lists_50 : decode cX11_lists 50 = .ok (.if_icmp .ge 37, 3) := by decide +kernel
theorem dX11_lists_53 : decode cX11_lists 53 = .ok (.aload_n 0, 1) := by decide +kernel
theorem dX11_lists_54 : decode cX11_lists 54 = .ok (.getfield 81, 3) := by decide +kernel
theorem dX11_lists_57 : decode cX11_lists 57 = .ok (.iload_n 1, 1) := by decide +kernel
theorem dX11_lists_58 : decode cX11_lists 58 = .ok (.aaload, 1) := by decide +kernel
theorem dX11_lists_59 : decode cX11_lists 59 = .ok (.iload 4, 2) := by decide +kernel
theorem dX11_lists_61 : decode cX11_lists 61 = .ok (.aload_n 0, 1) := by decide +kernel
theorem dX11_lists_62 : decode cX11_lists 62 = .ok (.aload_n 0, 1) := by decide +kernel
theorem dX11_lists_63 : decode cX11_lists 63 = .ok (.getfield 26, 3) := by decide +kernel
theorem dX11_lists_66 : decode cX11_lists 66 = .ok (.getfield 176, 3) := by decide +kernel
theorem dX11_lists_69 : decode cX11_lists 69 = .ok (.iload_n 2, 1) := by decide +kernel
theorem dX11_lists_70 : decode cX11_lists 70 = .ok (.iaload, 1) := by decide +kernel
theorem dX11_lists_71 : decode cX11_lists 71 = .ok (.iload 4, 2) := by decide +kernel
theorem dX11_lists_73 : decode cX11_lists 73 = .ok (.invokevirtual 201, 3) := by decide +kernel
theorem dX11_lists_76 : decode cX11_lists 76 = .ok (.i2l, 1) := by decide +kernel
theorem dX11_lists_77 : decode cX11_lists 77 = .ok (.invokevirtual 350, 3) := by decide +kernel
theorem dX11_lists_80 : decode cX11_lists 80 = .ok (.pop2, 1) := by decide +kernel
theorem dX11_lists_81 : decode cX11_lists 81 = .ok (.iinc 4 1, 3) := by decide +kernel
theorem dX11_lists_84 : decode cX11_lists 84 = .ok (.goto (-37), 3) := by decide +kernel
theorem dX11_lists_87 : decode cX11_lists 87 = .ok (.iload_n 3, 1) := by decide +kernel
theorem dX11_lists_88 : decode cX11_lists 88 = .ok (.ireturn, 1) := by decide +kernel
theorem dX11_image_0 : decode cX11_image 0 = .ok (.iload_n 1, 1) := by decide +kernel
theorem dX11_image_1 : decode cX11_image 1 = .ok (.iconst 0, 1) := by decide +kernel
theorem dX11_image_2 : decode cX11_image 2 = .ok (.iconst 1, 1) := by decide +kernel
theorem dX11_image_3 : decode cX11_image 3 = .ok (.invokestatic 197, 3) := by decide +kernel
theorem dX11_image_6 : decode cX11_image 6 = .ok (.ifCond .ne 6, 3) := by decide +kernel
theorem dX11_image_9 : decode cX11_image 9 = .ok (.bipush (-2), 2) := by decide +kernel
theorem dX11_image_11 : decode cX11_image 11 = .ok (.ireturn, 1) := by decide +kernel
theorem dX11_image_12 : decode cX11_image 12 = .ok (.aload_n 0, 1) := by decide +kernel
theorem dX11_image_13 : decode cX11_image 13 = .ok (.getfield 88, 3) := by decide +kernel
theorem dX11_image_16 : decode cX11_image 16 = .ok (.iload_n 1, 1) := by decide +kernel
theorem dX11_image_17 : decode cX11_image 17 = .ok (.aaload, 1) := by decide +kernel
theorem dX11_image_18 : decode cX11_image 18 = .ok (.ifnonnull 16, 3) := by decide +kernel
theorem dX11_image_21 : decode cX11_image 21 = .ok (.aload_n 0, 1) := by decide +kernel
theorem dX11_image_22 : decode cX11_image 22 = .ok (.getfield 88, 3) := by decide +kernel
theorem dX11_image_25 : decode cX11_image 25 = .ok (.iload_n 1, 1) := by decide +kernel
theorem dX11_image_26 : decode cX11_image 26 = .ok (.new 86, 3) := by decide +kernel
theorem dX11_image_29 : decode cX11_image 29 = .ok (.dup, 1) := by decide +kernel
theorem dX11_image_30 : decode cX11_image 30 = .ok (.invokespecial 354, 3) := by decide +kernel
theorem dX11_image_33 : decode cX11_image 33 = .ok (.aastore, 1) := by decide +kernel
theorem dX11_image_34 : decode cX11_image 34 = .ok (.aload_n 0, 1) := by decide +kernel
theorem dX11_image_35 : decode cX11_image 35 = .ok (.getfield 88, 3) := by decide +kernel
theorem dX11_image_38 : decode cX11_image 38 = .ok (.iload_n 1, 1) := by decide +kernel
theorem dX11_image_39 : decode cX11_image 39 = .ok (.aaload, 1) := by decide +kernel
theorem dX11_image_40 : decode cX11_image 40 = .ok (.getfield 355, 3) := by decide +kernel
theorem dX11_image_43 : decode cX11_image 43 = .ok (.aload_n 0, 1) := by decide +kernel
theorem dX11_image_44 : decode cX11_image 44 = .ok (.getfield 26, 3) := by decide +kernel
theorem dX11_image_47 : decode cX11_image 47 = .ok (.invokevirtual 111, 3) := by decide +kernel
theorem dX11_image_50 : decode cX11_image 50 = .ok (.aload_n 0, 1) := by decide +kernel
theorem dX11_image_51 : decode cX11_image 51 = .ok (.getfield 88, 3) := by decide +kernel
theorem dX11_image_54 : decode cX11_image 54 = .ok (.iload_n 1, 1) := by decide +kernel
theorem dX11_image_55 : decode cX11_image 55 = .ok (.aaload, 1) := by decide +kernel
theorem dX11_image_56 : decode cX11_image 56 = .ok (.getfield 356, 3) := by decide +kernel
theorem dX11_image_59 : decode cX11_image 59 = .ok (.aload_n 0, 1) := by decide +kernel
theorem dX11_image_60 : decode cX11_image 60 = .ok (.getfield 49, 3) := by decide +kernel
theorem dX11_image_63 : decode cX11_image 63 = .ok (.invokevirtual 236, 3) := by decide +kernel
theorem dX11_image_66 : decode cX11_image 66 = .ok (.iconst 0, 1) := by decide +kernel
theorem dX11_image_67 : decode cX11_image 67 = .ok (.ireturn, 1) := by decide +kernel
theorem dX11_restore_0 : decode cX11_restore 0 = .ok (.iload_n 1, 1) := by decide +kernel
theorem dX11_restore_1 : decode cX11_restore 1 = .ok (.iconst 0, 1) := by decide +kernel
theorem dX11_restore_2 : decode cX11_restore 2 = .ok (.iconst 1, 1) := by decide +kernel
theorem dX11_restore_3 : decode cX11_restore 3 = .ok (.invokestatic 197, 3) := by decide +kernel
theorem dX11_restore_6 : decode cX11_restore 6 = .ok (.ifCond .ne 6, 3) := by decide +kernel
theorem dX11_restore_9 : decode cX11_restore 9 = .ok (.bipush (-2), 2) := by decide +kernel
theorem dX11_restore_11 : decode cX11_restore 11 = .ok (.ireturn, 1) := by decide +kernel
theorem dX11_restore_12 : decode cX11_restore 12 = .ok (.aload_n 0, 1) := by decide +kernel
theorem dX11_restore_13 : decode cX11_restore 13 = .ok (.getfield 88, 3) := by decide +kernel
theorem dX11_restore_16 : decode cX11_restore 16 = .ok (.iload_n 1, 1) := by decide +kernel
theorem dX11_restore_17 : decode cX11_restore 17 = .ok (.aaload, 1) := by decide +kernel
theorem dX11_restore_18 : decode cX11_restore 18 = .ok (.ifnonnull 6, 3) := by decide +kernel
theorem dX11_restore_21 : decode cX11_restore 21 = .ok (.bipush (-5), 2) := by decide +kernel
theorem dX11_restore_23 : decode cX11_restore 23 = .ok (.ireturn, 1) := by decide +kernel
theorem dX11_restore_24 : decode cX11_restore 24 = .ok (.aload_n 0, 1) := by decide +kernel
theorem dX11_restore_25 : decode cX11_restore 25 = .ok (.getfield 26, 3) := by decide +kernel
theorem dX11_restore_28 : decode cX11_restore 28 = .ok (.aload_n 0, 1) := by decide +kernel
theorem dX11_restore_29 : decode cX11_restore 29 = .ok (.getfield 88, 3) := by decide +kernel
theorem dX11_restore_32 : decode cX11_restore 32 = .ok (.iload_n 1, 1) := by decide +kernel
theorem dX11_restore_33 : decode cX11_restore 33 = .ok (.aaload, 1) := by decide +kernel
theorem dX11_restore_34 : decode cX11_restore 34 = .ok (.getfield 355, 3) := by decide +kernel
theorem dX11_restore_37 : decode cX11_restore 37 = .ok (.invokevirtual 111, 3) := by decide +kernel
theorem dX11_restore_40 : decode cX11_restore 40 = .ok (.aload_n 0, 1) := by decide +kernel
theorem dX11_restore_41 : decode cX11_restore 41 = .ok (.getfield 49, 3) := by decide +kernel
theorem dX11_restore_44 : decode cX11_restore 44 = .ok (.aload_n 0, 1) := by decide +kernel
theorem dX11_restore_45 : decode cX11_restore 45 = .ok (.getfield 88, 3) := by decide +kernel
theorem dX11_restore_48 : decode cX11_restore 48 = .ok (.iload_n 1, 1) := by decide +kernel
theorem dX11_restore_49 : decode cX11_restore 49 = .ok (.aaload, 1) := by decide +kernel
theorem dX11_restore_50 : decode cX11_restore 50 = .ok (.getfield 356, 3) := by decide +kernel
theorem dX11_restore_53 : decode cX11_restore 53 = .ok (.invokevirtual 236, 3) := by decide +kernel
theorem dX11_restore_56 : decode cX11_restore 56 = .ok (.aload_n 0, 1) := by decide +kernel
theorem dX11_restore_57 : decode cX11_restore 57 = .ok (.getfield 42, 3) := by decide +kernel
theorem dX11_restore_60 : decode cX11_restore 60 = .ok (.invokevirtual 114, 3) := by decide +kernel
theorem dX11_restore_63 : decode cX11_restore 63 = .ok (.aload_n 0, 1) := by decide +kernel
theorem dX11_restore_64 : decode cX11_restore 64 = .ok (.getfield 59, 3) := by decide +kernel
theorem dX11_restore_67 : decode cX11_restore 67 = .ok (.invokevirtual 120, 3) := by decide +kernel
theorem dX11_restore_70 : decode cX11_restore 70 = .ok (.iconst 0, 1) := by decide +kernel
theorem dX11_restore_71 : decode cX11_restore 71 = .ok (.ireturn, 1) := by decide +kernel
theorem dX11_count_0 : decode cX11_count 0 = .ok (.iload_n 1, 1) := by decide +kernel
theorem dX11_count_1 : decode cX11_count 1 = .ok (.tableswitch 132 0 9 #[55, 63, 71, 79, 87, 95, 103, 111, 119, 124], 55) := by decide +kernel
theorem dX11_count_56 : decode cX11_count 56 = .ok (.aload_n 0, 1) := by decide +kernel
theorem dX11_count_57 : decode cX11_count 57 = .ok (.getfield 26, 3) := by decide +kernel
theorem dX11_count_60 : decode cX11_count 60 = .ok (.getfield 281, 3) := by decide +kernel
theorem dX11_count_63 : decode cX11_count 63 = .ok (.ireturn, 1) := by decide +kernel
theorem dX11_count_64 : decode cX11_count 64 = .ok (.aload_n 0, 1) := by decide +kernel
theorem dX11_count_65 : decode cX11_count 65 = .ok (.getfield 26, 3) := by decide +kernel
theorem dX11_count_68 : decode cX11_count 68 = .ok (.getfield 124, 3) := by decide +kernel
theorem dX11_count_71 : decode cX11_count 71 = .ok (.ireturn, 1) := by decide +kernel
theorem dX11_count_72 : decode cX11_count 72 = .ok (.aload_n 0, 1) := by decide +kernel
theorem dX11_count_73 : decode cX11_count 73 = .ok (.getfield 26, 3) := by decide +kernel
theorem dX11_count_76 : decode cX11_count 76 = .ok (.getfield 278, 3) := by decide +kernel
theorem dX11_count_79 : decode cX11_count 79 = .ok (.ireturn, 1) := by decide +kernel
theorem dX11_count_80 : decode cX11_count 80 = .ok (.aload_n 0, 1) := by decide +kernel
theorem dX11_count_81 : decode cX11_count 81 = .ok (.getfield 26, 3) := by decide +kernel
theorem dX11_count_84 : decode cX11_count 84 = .ok (.getfield 309, 3) := by decide +kernel
theorem dX11_count_87 : decode cX11_count 87 = .ok (.ireturn, 1) := by decide +kernel
theorem dX11_count_88 : decode cX11_count 88 = .ok (.aload_n 0, 1) := by decide +kernel
theorem dX11_count_89 : decode cX11_count 89 = .ok (.getfield 49, 3) := by decide +kernel
theorem dX11_count_92 : decode cX11_count 92 = .ok (.getfield 215, 3) := by decide +kernel
theorem dX11_count_95 : decode cX11_count 95 = .ok (.ireturn, 1) := by decide +kernel
theorem dX11_count_96 : decode cX11_count 96 = .ok (.aload_n 0, 1) := by decide +kernel
theorem dX11_count_97 : decode cX11_count 97 = .ok (.getfield 49, 3) := by decide +kernel
theorem dX11_count_100 : decode cX11_count 100 = .ok (.getfield 136, 3) := by decide +kernel
theorem dX11_count_103 : decode cX11_count 103 = .ok (.ireturn, 1) := by decide +kernel
theorem dX11_count_104 : decode cX11_count 104 = .ok (.aload_n 0, 1) := by decide +kernel
theorem dX11_count_105 : decode cX11_count 105 = .ok (.getfield 49, 3) := by decide +kernel
theorem dX11_count_108 : decode cX11_count 108 = .ok (.getfield 139, 3) := by decide +kernel
theorem dX11_count_111 : decode cX11_count 111 = .ok (.ireturn, 1) := by decide +kernel
theorem dX11_count_112 : decode cX11_count 112 = .ok (.aload_n 0, 1) := by decide +kernel
theorem dX11_count_113 : decode cX11_count 113 = .ok (.getfield 59, 3) := by decide +kernel
theorem dX11_count_116 : decode cX11_count 116 = .ok (.getfield 222, 3) := by decide +kernel
theorem dX11_count_119 : decode cX11_count 119 = .ok (.ireturn, 1) := by decide +kernel
theorem dX11_count_120 : decode cX11_count 120 = .ok (.aload_n 0, 1) := by decide +kernel
theorem dX11_count_121 : decode cX11_count 121 = .ok (.getfield 13, 3) := by decide +kernel
theorem dX11_count_124 : decode cX11_count 124 = .ok (.ireturn, 1) := by decide +kernel
theorem dX11_count_125 : decode cX11_count 125 = .ok (.aload_n 0, 1) := by decide +kernel
theorem dX11_count_126 : decode cX11_count 126 = .ok (.getfield 26, 3) := by decide +kernel
theorem dX11_count_129 : decode cX11_count 129 = .ok (.getfield 121, 3) := by decide +kernel
theorem dX11_count_132 : decode cX11_count 132 = .ok (.ireturn, 1) := by decide +kernel
theorem dX11_count_133 : decode cX11_count 133 = .ok (.iconst (-1), 1) := by decide +kernel
theorem dX11_count_134 : decode cX11_count 134 = .ok (.ireturn, 1) := by decide +kernel
theorem dX11_putOnTape_0 : decode cX11_putOnTape 0 = .ok (.bipush 24, 2) := by decide +kernel
theorem dX11_putOnTape_2 : decode cX11_putOnTape 2 = .ok (.istore_n 2, 1) := by decide +kernel
theorem dX11_putOnTape_3 : decode cX11_putOnTape 3 = .ok (.iload_n 2, 1) := by decide +kernel
theorem dX11_putOnTape_4 : decode cX11_putOnTape 4 = .ok (.ifCond .lt 42, 3) := by decide +kernel
theorem dX11_putOnTape_7 : decode cX11_putOnTape 7 = .ok (.aload_n 0, 1) := by decide +kernel
theorem dX11_putOnTape_8 : decode cX11_putOnTape 8 = .ok (.getfield 13, 3) := by decide +kernel
theorem dX11_putOnTape_11 : decode cX11_putOnTape 11 = .ok (.sipush 900, 3) := by decide +kernel
theorem dX11_putOnTape_14 : decode cX11_putOnTape 14 = .ok (.if_icmp .ge 32, 3) := by decide +kernel
theorem dX11_putOnTape_17 : decode cX11_putOnTape 17 = .ok (.aload_n 0, 1) := by decide +kernel
theorem dX11_putOnTape_18 : decode cX11_putOnTape 18 = .ok (.getfield 9, 3) := by decide +kernel
theorem dX11_putOnTape_21 : decode cX11_putOnTape 21 = .ok (.aload_n 0, 1) := by decide +kernel
theorem dX11_putOnTape_22 : decode cX11_putOnTape 22 = .ok (.getfield 13, 3) := by decide +kernel
theorem dX11_putOnTape_25 : decode cX11_putOnTape 25 = .ok (.iload_n 1, 1) := by decide +kernel
theorem dX11_putOnTape_26 : decode cX11_putOnTape 26 = .ok (.iload_n 2, 1) := by decide +kernel
theorem dX11_putOnTape_27 : decode cX11_putOnTape 27 = .ok (.ishr, 1) := by decide +kernel
theorem dX11_putOnTape_28 : decode cX11_putOnTape 28 = .ok (.i2b, 1) := by decide +kernel
theorem dX11_putOnTape_29 : decode cX11_putOnTape 29 = .ok (.bastore, 1) := by decide +kernel
theorem dX11_putOnTape_30 : decode cX11_putOnTape 30 = .ok (.aload_n 0, 1) := by decide +kernel
theorem dX11_putOnTape_31 : decode cX11_putOnTape 31 = .ok (.dup, 1) := by decide +kernel
theorem dX11_putOnTape_32 : decode cX11_putOnTape 32 = .ok (.getfield 13, 3) := by decide +kernel
theorem dX11_putOnTape_35 : decode cX11_putOnTape 35 = .ok (.iconst 1, 1) := by decide +kernel
theorem dX11_putOnTape_36 : decode cX11_putOnTape 36 = .ok (.iadd, 1) := by decide +kernel
theorem dX11_putOnTape_37 : decode cX11_putOnTape 37 = .ok (.putfield 13, 3) := by decide +kernel
theorem dX11_putOnTape_40 : decode cX11_putOnTape 40 = .ok (.iinc 2 (-8), 3) := by decide +kernel
theorem dX11_putOnTape_43 : decode cX11_putOnTape 43 = .ok (.goto (-40), 3) := by decide +kernel
theorem dX11_putOnTape_46 : decode cX11_putOnTape 46 = .ok (.return_, 1) := by decide +kernel
theorem dX11_within_0 : decode cX11_within 0 = .ok (.iload_n 0, 1) := by decide +kernel
theorem dX11_within_1 : decode cX11_within 1 = .ok (.iload_n 1, 1) := by decide +kernel
theorem dX11_within_2 : decode cX11_within 2 = .ok (.if_icmp .lt 12, 3) := by decide +kernel
theorem dX11_within_5 : decode cX11_within 5 = .ok (.iload_n 0, 1) := by decide +kernel
theorem dX11_within_6 : decode cX11_within 6 = .ok (.iload_n 2, 1) := by decide +kernel
theorem dX11_within_7 : decode cX11_within 7 = .ok (.if_icmp .gt 7, 3) := by decide +kernel
theorem dX11_within_10 : decode cX11_within 10 = .ok (.iconst 1, 1) := by decide +kernel
theorem dX11_within_11 : decode cX11_within 11 = .ok (.goto 4, 3) := by decide +kernel
theorem dX11_within_14 : decode cX11_within 14 = .ok (.iconst 0, 1) := by decide +kernel
theorem dX11_within_15 : decode cX11_within 15 = .ok (.ireturn, 1) := by decide +kernel
theorem dX11_isBeach_0 : decode cX11_isBeach 0 = .ok (.iload_n 1, 1) := by decide +kernel
theorem dX11_isBeach_1 : decode cX11_isBeach 1 = .ok (.ifCond .lt 18, 3) := by decide +kernel
theorem dX11_isBeach_4 : decode cX11_isBeach 4 = .ok (.iload_n 1, 1) := by decide +kernel
theorem dX11_isBeach_5 : decode cX11_isBeach 5 = .ok (.aload_n 0, 1) := by decide +kernel
theorem dX11_isBeach_6 : decode cX11_isBeach 6 = .ok (.getfield 26, 3) := by decide +kernel
theorem dX11_isBeach_9 : decode cX11_isBeach 9 = .ok (.getfield 281, 3) := by decide +kernel
theorem dX11_isBeach_12 : decode cX11_isBeach 12 = .ok (.if_icmp .ge 7, 3) := by decide +kernel
theorem dX11_isBeach_15 : decode cX11_isBeach 15 = .ok (.iconst 1, 1) := by decide +kernel
theorem dX11_isBeach_16 : decode cX11_isBeach 16 = .ok (.goto 4, 3) := by decide +kernel
theorem dX11_isBeach_19 : decode cX11_isBeach 19 = .ok (.iconst 0, 1) := by decide +kernel
theorem dX11_isBeach_20 : decode cX11_isBeach 20 = .ok (.ireturn, 1) := by decide +kernel
theorem dX11_isPerson_0 : decode cX11_isPerson 0 = .ok (.iload_n 1, 1) := by decide +kernel
theorem dX11_isPerson_1 : decode cX11_isPerson 1 = .ok (.ifCond .lt 18, 3) := by decide +kernel
theorem dX11_isPerson_4 : decode cX11_isPerson 4 = .ok (.iload_n 1, 1) := by decide +kernel
theorem dX11_isPerson_5 : decode cX11_isPerson 5 = .ok (.aload_n 0, 1) := by decide +kernel
theorem dX11_isPerson_6 : decode cX11_isPerson 6 = .ok (.getfield 26, 3) := by decide +kernel
theorem dX11_isPerson_9 : decode cX11_isPerson 9 = .ok (.getfield 278, 3) := by decide +kernel
theorem dX11_isPerson_12 : decode cX11_isPerson 12 = .ok (.if_icmp .ge 7, 3) := by decide +kernel
theorem dX11_isPerson_15 : decode cX11_isPerson 15 = .ok (.iconst 1, 1) := by decide +kernel
theorem dX11_isPerson_16 : decode cX11_isPerson 16 = .ok (.goto 4, 3) := by decide +kernel
theorem dX11_isPerson_19 : decode cX11_isPerson 19 = .ok (.iconst 0, 1) := by decide +kernel
theorem dX11_isPerson_20 : decode cX11_isPerson 20 = .ok (.ireturn, 1) := by decide +kernel
theorem dX11_isShell_0 : decode cX11_isShell 0 = .ok (.iload_n 1, 1) := by decide +kernel
theorem dX11_isShell_1 : decode cX11_isShell 1 = .ok (.ifCond .lt 18, 3) := by decide +kernel
theorem dX11_isShell_4 : decode cX11_isShell 4 = .ok (.iload_n 1, 1) := by decide +kernel
theorem dX11_isShell_5 : decode cX11_isShell 5 = .ok (.aload_n 0, 1) := by decide +kernel
theorem dX11_isShell_6 : decode cX11_isShell 6 = .ok (.getfield 26, 3) := by decide +kernel
theorem dX11_isShell_9 : decode cX11_isShell 9 = .ok (.getfield 309, 3) := by decide +kernel
theorem dX11_isShell_12 : decode cX11_isShell 12 = .ok (.if_icmp .ge 7, 3) := by decide +kernel
theorem dX11_isShell_15 : decode cX11_isShell 15 = .ok (.iconst 1, 1) := by decide +kernel
theorem dX11_isShell_16 : decode cX11_isShell 16 = .ok (.goto 4, 3) := by decide +kernel
theorem dX11_isShell_19 : decode cX11_isShell 19 = .ok (.iconst 0, 1) := by decide +kernel
theorem dX11_isShell_20 : decode cX11_isShell 20 = .ok (.ireturn, 1) := by decide +kernel
theorem dX11_isWord_0 : decode cX11_isWord 0 = .ok (.iload_n 1, 1) := by decide +kernel
theorem dX11_isWord_1 : decode cX11_isWord 1 = .ok (.ifCond .lt 18, 3) := by decide +kernel
theorem dX11_isWord_4 : decode cX11_isWord 4 = .ok (.iload_n 1, 1) := by decide +kernel
theorem dX11_isWord_5 : decode cX11_isWord 5 = .ok (.aload_n 0, 1) := by decide +kernel
theorem dX11_isWord_6 : decode cX11_isWord 6 = .ok (.getfield 49, 3) := by decide +kernel
theorem dX11_isWord_9 : decode cX11_isWord 9 = .ok (.getfield 215, 3) := by decide +kernel
theorem dX11_isWord_12 : decode cX11_isWord 12 = .ok (.if_icmp .ge 7, 3) := by decide +kernel
theorem dX11_isWord_15 : decode cX11_isWord 15 = .ok (.iconst 1, 1) := by decide +kernel
theorem dX11_isWord_16 : decode cX11_isWord 16 = .ok (.goto 4, 3) := by decide +kernel
theorem dX11_isWord_19 : decode cX11_isWord 19 = .ok (.iconst 0, 1) := by decide +kernel
theorem dX11_isWord_20 : decode cX11_isWord 20 = .ok (.ireturn, 1) := by decide +kernel
theorem dX11_isTray_0 : decode cX11_isTray 0 = .ok (.iload_n 1, 1) := by decide +kernel
theorem dX11_isTray_1 : decode cX11_isTray 1 = .ok (.ifCond .lt 12, 3) := by decide +kernel
theorem dX11_isTray_4 : decode cX11_isTray 4 = .ok (.iload_n 1, 1) := by decide +kernel
theorem dX11_isTray_5 : decode cX11_isTray 5 = .ok (.iconst 4, 1) := by decide +kernel
theorem dX11_isTray_6 : decode cX11_isTray 6 = .ok (.if_icmp .ge 7, 3) := by decide +kernel
theorem dX11_isTray_9 : decode cX11_isTray 9 = .ok (.iconst 1, 1) := by decide +kernel
theorem dX11_isTray_10 : decode cX11_isTray 10 = .ok (.goto 4, 3) := by decide +kernel
theorem dX11_isTray_13 : decode cX11_isTray 13 = .ok (.iconst 0, 1) := by decide +kernel
theorem dX11_isTray_14 : decode cX11_isTray 14 = .ok (.ireturn, 1) := by decide +kernel
theorem dX11_deed_0 : decode cX11_deed 0 = .ok (.aload_n 0, 1) := by decide +kernel
theorem dX11_deed_1 : decode cX11_deed 1 = .ok (.getfield 53, 3) := by decide +kernel
theorem dX11_deed_4 : decode cX11_deed 4 = .ok (.aload_n 0, 1) := by decide +kernel
theorem dX11_deed_5 : decode cX11_deed 5 = .ok (.getfield 49, 3) := by decide +kernel
theorem dX11_deed_8 : decode cX11_deed 8 = .ok (.invokevirtual 236, 3) := by decide +kernel
theorem dX11_deed_11 : decode cX11_deed 11 = .ok (.aload_n 0, 1) := by decide +kernel
theorem dX11_deed_12 : decode cX11_deed 12 = .ok (.getfield 49, 3) := by decide +kernel
theorem dX11_deed_15 : decode cX11_deed 15 = .ok (.iload_n 1, 1) := by decide +kernel
theorem dX11_deed_16 : decode cX11_deed 16 = .ok (.i2l, 1) := by decide +kernel
theorem dX11_deed_17 : decode cX11_deed 17 = .ok (.aload_n 0, 1) := by decide +kernel
theorem dX11_deed_18 : decode cX11_deed 18 = .ok (.getfield 26, 3) := by decide +kernel
theorem dX11_deed_21 : decode cX11_deed 21 = .ok (.aload_n 0, 1) := by decide +kernel
theorem dX11_deed_22 : decode cX11_deed 22 = .ok (.getfield 42, 3) := by decide +kernel
theorem dX11_deed_25 : decode cX11_deed 25 = .ok (.invokevirtual 247, 3) := by decide +kernel
theorem dX11_deed_28 : decode cX11_deed 28 = .ok (.istore_n 2, 1) := by decide +kernel
theorem dX11_deed_29 : decode cX11_deed 29 = .ok (.iload_n 2, 1) := by decide +kernel
theorem dX11_deed_30 : decode cX11_deed 30 = .ok (.ifCond .ne 14, 3) := by decide +kernel
theorem dX11_deed_33 : decode cX11_deed 33 = .ok (.aload_n 0, 1) := by decide +kernel
theorem dX11_deed_34 : decode cX11_deed 34 = .ok (.getfield 59, 3) := by decide +kernel
theorem dX11_deed_37 : decode cX11_deed 37 = .ok (.aload_n 0, 1) := by decide +kernel
theorem dX11_deed_38 : decode cX11_deed 38 = .ok (.getfield 53, 3) := by decide +kernel
theorem dX11_deed_41 : decode cX11_deed 41 = .ok (.invokevirtual 208, 3) := by decide +kernel
theorem dX11_deed_44 : decode cX11_deed 44 = .ok (.iload_n 2, 1) := by decide +kernel
theorem dX11_deed_45 : decode cX11_deed 45 = .ok (.ireturn, 1) := by decide +kernel
theorem dX11_probeHours_0 : decode cX11_probeHours 0 = .ok (.aload_n 0, 1) := by decide +kernel
theorem dX11_probeHours_1 : decode cX11_probeHours 1 = .ok (.getfield 53, 3) := by decide +kernel
theorem dX11_probeHours_4 : decode cX11_probeHours 4 = .ok (.aload_n 0, 1) := by decide +kernel
theorem dX11_probeHours_5 : decode cX11_probeHours 5 = .ok (.getfield 49, 3) := by decide +kernel
theorem dX11_probeHours_8 : decode cX11_probeHours 8 = .ok (.invokevirtual 236, 3) := by decide +kernel
theorem dX11_probeHours_11 : decode cX11_probeHours 11 = .ok (.iconst 0, 1) := by decide +kernel
theorem dX11_probeHours_12 : decode cX11_probeHours 12 = .ok (.istore_n 2, 1) := by decide +kernel
theorem dX11_probeHours_13 : decode cX11_probeHours 13 = .ok (.iload_n 2, 1) := by decide +kernel
theorem dX11_probeHours_14 : decode cX11_probeHours 14 = .ok (.iload_n 1, 1) := by decide +kernel
theorem dX11_probeHours_15 : decode cX11_probeHours 15 = .ok (.if_icmp .ge 25, 3) := by decide +kernel
theorem dX11_probeHours_18 : decode cX11_probeHours 18 = .ok (.aload_n 0, 1) := by decide +kernel
theorem dX11_probeHours_19 : decode cX11_probeHours 19 = .ok (.getfield 53, 3) := by decide +kernel
theorem dX11_probeHours_22 : decode cX11_probeHours 22 = .ok (.aload_n 0, 1) := by decide +kernel
theorem dX11_probeHours_23 : decode cX11_probeHours 23 = .ok (.getfield 26, 3) := by decide +kernel
theorem dX11_probeHours_26 : decode cX11_probeHours 26 = .ok (.aload_n 0, 1) := by decide +kernel
theorem dX11_probeHours_27 : decode cX11_probeHours 27 = .ok (.getfield 42, 3) := by decide +kernel
theorem dX11_probeHours_30 : decode cX11_probeHours 30 = .ok (.invokevirtual 218, 3) := by decide +kernel
theorem dX11_probeHours_33 : decode cX11_probeHours 33 = .ok (.pop, 1) := by decide +kernel
theorem dX11_probeHours_34 : decode cX11_probeHours 34 = .ok (.iinc 2 1, 3) := by decide +kernel
theorem dX11_probeHours_37 : decode cX11_probeHours 37 = .ok (.goto (-24), 3) := by decide +kernel
theorem dX11_probeHours_40 : decode cX11_probeHours 40 = .ok (.return_, 1) := by decide +kernel
theorem dX11_soundIn_0 : decode cX11_soundIn 0 = .ok (.aload_n 0, 1) := by decide +kernel
theorem dX11_soundIn_1 : decode cX11_soundIn 1 = .ok (.getfield 42, 3) := by decide +kernel
theorem dX11_soundIn_4 : decode cX11_soundIn 4 = .ok (.iload_n 1, 1) := by decide +kernel
theorem dX11_soundIn_5 : decode cX11_soundIn 5 = .ok (.aload_n 0, 1) := by decide +kernel
theorem dX11_soundIn_6 : decode cX11_soundIn 6 = .ok (.getfield 49, 3) := by decide +kernel
theorem dX11_soundIn_9 : decode cX11_soundIn 9 = .ok (.getfield 136, 3) := by decide +kernel
theorem dX11_soundIn_12 : decode cX11_soundIn 12 = .ok (.iload_n 2, 1) := by decide +kernel
theorem dX11_soundIn_13 : decode cX11_soundIn 13 = .ok (.iadd, 1) := by decide +kernel
theorem dX11_soundIn_14 : decode cX11_soundIn 14 = .ok (.aload_n 0, 1) := by decide +kernel
theorem dX11_soundIn_15 : decode cX11_soundIn 15 = .ok (.getfield 49, 3) := by decide +kernel
theorem dX11_soundIn_18 : decode cX11_soundIn 18 = .ok (.getfield 139, 3) := by decide +kernel
theorem dX11_soundIn_21 : decode cX11_soundIn 21 = .ok (.iload_n 2, 1) := by decide +kernel
theorem dX11_soundIn_22 : decode cX11_soundIn 22 = .ok (.if_icmp .le 7, 3) := by decide +kernel
theorem dX11_soundIn_25 : decode cX11_soundIn 25 = .ok (.iconst 1, 1) := by decide +kernel
theorem dX11_soundIn_26 : decode cX11_soundIn 26 = .ok (.goto 4, 3) := by decide +kernel
theorem dX11_soundIn_29 : decode cX11_soundIn 29 = .ok (.iconst 0, 1) := by decide +kernel
theorem dX11_soundIn_30 : decode cX11_soundIn 30 = .ok (.invokevirtual 359, 3) := by decide +kernel
theorem dX11_soundIn_33 : decode cX11_soundIn 33 = .ok (.ireturn, 1) := by decide +kernel
theorem dX11_numberOrSet_0 : decode cX11_numberOrSet 0 = .ok (.iload_n 0, 1) := by decide +kernel
theorem dX11_numberOrSet_1 : decode cX11_numberOrSet 1 = .ok (.iconst (-1), 1) := by decide +kernel
theorem dX11_numberOrSet_2 : decode cX11_numberOrSet 2 = .ok (.if_icmp .ne 5, 3) := by decide +kernel
theorem dX11_numberOrSet_5 : decode cX11_numberOrSet 5 = .ok (.iconst (-1), 1) := by decide +kernel
theorem dX11_numberOrSet_6 : decode cX11_numberOrSet 6 = .ok (.ireturn, 1) := by decide +kernel
theorem dX11_numberOrSet_7 : decode cX11_numberOrSet 7 = .ok (.iload_n 1, 1) := by decide +kernel
theorem dX11_numberOrSet_8 : decode cX11_numberOrSet 8 = .ok (.ifCond .ne 10, 3) := by decide +kernel
theorem dX11_numberOrSet_11 : decode cX11_numberOrSet 11 = .ok (.iload_n 0, 1) := by decide +kernel
theorem dX11_numberOrSet_12 : decode cX11_numberOrSet 12 = .ok (.invokestatic 163, 3) := by decide +kernel
theorem dX11_numberOrSet_15 : decode cX11_numberOrSet 15 = .ok (.goto 4, 3) := by decide +kernel
theorem dX11_numberOrSet_18 : decode cX11_numberOrSet 18 = .ok (.iload_n 0, 1) := by decide +kernel
theorem dX11_numberOrSet_19 : decode cX11_numberOrSet 19 = .ok (.ireturn, 1) := by decide +kernel
theorem dX11_findReached_0 : decode cX11_findReached 0 = .ok (.aload_n 0, 1) := by decide +kernel
theorem dX11_findReached_1 : decode cX11_findReached 1 = .ok (.getfield 68, 3) := by decide +kernel
theorem dX11_findReached_4 : decode cX11_findReached 4 = .ok (.iload_n 1, 1) := by decide +kernel
theorem dX11_findReached_5 : decode cX11_findReached 5 = .ok (.invokevirtual 262, 3) := by decide +kernel
theorem dX11_findReached_8 : decode cX11_findReached 8 = .ok (.iconst 0, 1) := by decide +kernel
theorem dX11_findReached_9 : decode cX11_findReached 9 = .ok (.istore_n 2, 1) := by decide +kernel
theorem dX11_findReached_10 : decode cX11_findReached 10 = .ok (.iload_n 2, 1) := by decide +kernel
theorem dX11_findReached_11 : decode cX11_findReached 11 = .ok (.aload_n 0, 1) := by decide +kernel
theorem dX11_findReached_12 : decode cX11_findReached 12 = .ok (.getfield 26, 3) := by decide +kernel
theorem dX11_findReached_15 : decode cX11_findReached 15 = .ok (.getfield 281, 3) := by decide +kernel
theorem dX11_findReached_18 : decode cX11_findReached 18 = .ok (.if_icmp .ge 33, 3) := by decide +kernel
theorem dX11_findReached_21 : decode cX11_findReached 21 = .ok (.aload_n 0, 1) := by decide +kernel
theorem dX11_findReached_22 : decode cX11_findReached 22 = .ok (.getfield 68, 3) := by decide +kernel
theorem dX11_findReached_25 : decode cX11_findReached 25 = .ok (.iload_n 2, 1) := by decide +kernel
theorem dX11_findReached_26 : decode cX11_findReached 26 = .ok (.iconst 0, 1) := by decide +kernel
theorem dX11_findReached_27 : decode cX11_findReached 27 = .ok (.iconst 0, 1) := by decide +kernel
theorem dX11_findReached_28 : decode cX11_findReached 28 = .ok (.invokevirtual 265, 3) := by decide +kernel
theorem dX11_findReached_31 : decode cX11_findReached 31 = .ok (.aload_n 0, 1) := by decide +kernel
theorem dX11_findReached_32 : decode cX11_findReached 32 = .ok (.getfield 92, 3) := by decide +kernel
theorem dX11_findReached_35 : decode cX11_findReached 35 = .ok (.iload_n 2, 1) := by decide +kernel
theorem dX11_findReached_36 : decode cX11_findReached 36 = .ok (.aload_n 0, 1) := by decide +kernel
theorem dX11_findReached_37 : decode cX11_findReached 37 = .ok (.getfield 68, 3) := by decide +kernel
theorem dX11_findReached_40 : decode cX11_findReached 40 = .ok (.iload_n 1, 1) := by decide +kernel
theorem dX11_findReached_41 : decode cX11_findReached 41 = .ok (.invokevirtual 363, 3) := by decide +kernel
theorem dX11_findReached_44 : decode cX11_findReached 44 = .ok (.iastore, 1) := by decide +kernel
theorem dX11_findReached_45 : decode cX11_findReached 45 = .ok (.iinc 2 1, 3) := by decide +kernel
theorem dX11_findReached_48 : decode cX11_findReached 48 = .ok (.goto (-38), 3) := by decide +kernel
theorem dX11_findReached_51 : decode cX11_findReached 51 = .ok (.return_, 1) := by decide +kernel
theorem dX11_bestSpies_0 : decode cX11_bestSpies 0 = .ok (.iconst 0, 1) := by decide +kernel
theorem dX11_bestSpies_1 : decode cX11_bestSpies 1 = .ok (.istore_n 2, 1) := by decide +kernel
theorem dX11_bestSpies_2 : decode cX11_bestSpies 2 = .ok (.iconst (-1), 1) := by decide +kernel
theorem dX11_bestSpies_3 : decode cX11_bestSpies 3 = .ok (.istore_n 3, 1) := by decide +kernel
theorem dX11_bestSpies_4 : decode cX11_bestSpies 4 = .ok (.iconst 1, 1) := by decide +kernel
theorem dX11_bestSpies_5 : decode cX11_bestSpies 5 = .ok (.istore 4, 2) := by decide +kernel
theorem dX11_bestSpies_7 : decode cX11_bestSpies 7 = .ok (.iload 4, 2) := by decide +kernel
theorem dX11_bestSpies_9 : decode cX11_bestSpies 9 = .ok (.iconst 1, 1) := by decide +kernel
theorem dX11_bestSpies_10 : decode cX11_bestSpies 10 = .ok (.aload_n 0, 1) := by decide +kernel
theorem dX11_bestSpies_11 : decode cX11_bestSpies 11 = .ok (.getfield 26, 3) := by decide +kernel
theorem dX11_bestSpies_14 : decode cX11_bestSpies 14 = .ok (.getfield 281, 3) := by decide +kernel
theorem dX11_bestSpies_17 : decode cX11_bestSpies 17 = .ok (.ishl, 1) := by decide +kernel
theorem dX11_bestSpies_18 : decode cX11_bestSpies 18 = .ok (.if_icmp .ge 38, 3) := by decide +kernel
theorem dX11_bestSpies_21 : decode cX11_bestSpies 21 = .ok (.iload 4, 2) := by decide +kernel
theorem dX11_bestSpies_23 : decode cX11_bestSpies 23 = .ok (.invokestatic 163, 3) := by decide +kernel
theorem dX11_bestSpies_26 : decode cX11_bestSpies 26 = .ok (.iload_n 1, 1) := by decide +kernel
theorem dX11_bestSpies_27 : decode cX11_bestSpies 27 = .ok (.if_icmp .ne 23, 3) := by decide +kernel
theorem dX11_bestSpies_30 : decode cX11_bestSpies 30 = .ok (.aload_n 0, 1) := by decide +kernel
theorem dX11_bestSpies_31 : decode cX11_bestSpies 31 = .ok (.iload 4, 2) := by decide +kernel
theorem dX11_bestSpies_33 : decode cX11_bestSpies 33 = .ok (.invokevirtual 300, 3) := by decide +kernel
theorem dX11_bestSpies_36 : decode cX11_bestSpies 36 = .ok (.iload_n 3, 1) := by decide +kernel
theorem dX11_bestSpies_37 : decode cX11_bestSpies 37 = .ok (.if_icmp .le 13, 3) := by decide +kernel
theorem dX11_bestSpies_40 : decode cX11_bestSpies 40 = .ok (.aload_n 0, 1) := by decide +kernel
theorem dX11_bestSpies_41 : decode cX11_bestSpies 41 = .ok (.iload 4, 2) := by decide +kernel
theorem dX11_bestSpies_43 : decode cX11_bestSpies 43 = .ok (.invokevirtual 300, 3) := by decide +kernel
theorem dX11_bestSpies_46 : decode cX11_bestSpies 46 = .ok (.istore_n 3, 1) := by decide +kernel
theorem dX11_bestSpies_47 : decode cX11_bestSpies 47 = .ok (.iload 4, 2) := by decide +kernel
theorem dX11_bestSpies_49 : decode cX11_bestSpies 49 = .ok (.istore_n 2, 1) := by decide +kernel
theorem dX11_bestSpies_50 : decode cX11_bestSpies 50 = .ok (.iinc 4 1, 3) := by decide +kernel
theorem dX11_bestSpies_53 : decode cX11_bestSpies 53 = .ok (.goto (-46), 3) := by decide +kernel
theorem dX11_bestSpies_56 : decode cX11_bestSpies 56 = .ok (.iload_n 2, 1) := by decide +kernel
theorem dX11_bestSpies_57 : decode cX11_bestSpies 57 = .ok (.ireturn, 1) := by decide +kernel
theorem dX11_watchedBy_0 : decode cX11_watchedBy 0 = .ok (.iconst 0, 1) := by decide +kernel
theorem dX11_watchedBy_1 : decode cX11_watchedBy 1 = .ok (.istore_n 2, 1) := by decide +kernel
theorem dX11_watchedBy_2 : decode cX11_watchedBy 2 = .ok (.iconst 0, 1) := by decide +kernel
theorem dX11_watchedBy_3 : decode cX11_watchedBy 3 = .ok (.istore_n 3, 1) := by decide +kernel
theorem dX11_watchedBy_4 : decode cX11_watchedBy 4 = .ok (.iload_n 3, 1) := by decide +kernel
theorem dX11_watchedBy_5 : decode cX11_watchedBy 5 = .ok (.aload_n 0, 1) := by decide +kernel
theorem dX11_watchedBy_6 : decode cX11_watchedBy 6 = .ok (.getfield 26, 3) := by decide +kernel
theorem dX11_watchedBy_9 : decode cX11_watchedBy 9 = .ok (.getfield 281, 3) := by decide +kernel
theorem dX11_watchedBy_12 : decode cX11_watchedBy 12 = .ok (.if_icmp .ge 23, 3) := by decide +kernel
theorem dX11_watchedBy_15 : decode cX11_watchedBy 15 = .ok (.aload_n 0, 1) := by decide +kernel
theorem dX11_watchedBy_16 : decode cX11_watchedBy 16 = .ok (.getfield 92, 3) := by decide +kernel
theorem dX11_watchedBy_19 : decode cX11_watchedBy 19 = .ok (.iload_n 3, 1) := by decide +kernel
theorem dX11_watchedBy_20 : decode cX11_watchedBy 20 = .ok (.iaload, 1) := by decide +kernel
theorem dX11_watchedBy_21 : decode cX11_watchedBy 21 = .ok (.iload_n 1, 1) := by decide +kernel
theorem dX11_watchedBy_22 : decode cX11_watchedBy 22 = .ok (.iand, 1) := by decide +kernel
theorem dX11_watchedBy_23 : decode cX11_watchedBy 23 = .ok (.ifCond .eq 6, 3) := by decide +kernel
theorem dX11_watchedBy_26 : decode cX11_watchedBy 26 = .ok (.iinc 2 1, 3) := by decide +kernel
theorem dX11_watchedBy_29 : decode cX11_watchedBy 29 = .ok (.iinc 3 1, 3) := by decide +kernel
theorem dX11_watchedBy_32 : decode cX11_watchedBy 32 = .ok (.goto (-28), 3) := by decide +kernel
theorem dX11_watchedBy_35 : decode cX11_watchedBy 35 = .ok (.iload_n 2, 1) := by decide +kernel
theorem dX11_watchedBy_36 : decode cX11_watchedBy 36 = .ok (.ireturn, 1) := by decide +kernel
theorem dX11_heardCode_0 : decode cX11_heardCode 0 = .ok (.aload_n 0, 1) := by decide +kernel
theorem dX11_heardCode_1 : decode cX11_heardCode 1 = .ok (.iload_n 1, 1) := by decide +kernel
theorem dX11_heardCode_2 : decode cX11_heardCode 2 = .ok (.invokevirtual 229, 3) := by decide +kernel
theorem dX11_heardCode_5 : decode cX11_heardCode 5 = .ok (.ifCond .ne 6, 3) := by decide +kernel
theorem dX11_heardCode_8 : decode cX11_heardCode 8 = .ok (.bipush (-2), 2) := by decide +kernel
theorem dX11_heardCode_10 : decode cX11_heardCode 10 = .ok (.ireturn, 1) := by decide +kernel
theorem dX11_heardCode_11 : decode cX11_heardCode 11 = .ok (.aload_n 0, 1) := by decide +kernel
theorem dX11_heardCode_12 : decode cX11_heardCode 12 = .ok (.getfield 81, 3) := by decide +kernel
theorem dX11_heardCode_15 : decode cX11_heardCode 15 = .ok (.iload_n 1, 1) := by decide +kernel
theorem dX11_heardCode_16 : decode cX11_heardCode 16 = .ok (.aaload, 1) := by decide +kernel
theorem dX11_heardCode_17 : decode cX11_heardCode 17 = .ok (.invokevirtual 232, 3) := by decide +kernel
theorem dX11_heardCode_20 : decode cX11_heardCode 20 = .ok (.ifCond .eq 6, 3) := by decide +kernel
theorem dX11_heardCode_23 : decode cX11_heardCode 23 = .ok (.bipush (-6), 2) := by decide +kernel
theorem dX11_heardCode_25 : decode cX11_heardCode 25 = .ok (.ireturn, 1) := by decide +kernel
theorem dX11_heardCode_26 : decode cX11_heardCode 26 = .ok (.aload_n 0, 1) := by decide +kernel
theorem dX11_heardCode_27 : decode cX11_heardCode 27 = .ok (.getfield 81, 3) := by decide +kernel
theorem dX11_heardCode_30 : decode cX11_heardCode 30 = .ok (.iload_n 1, 1) := by decide +kernel
theorem dX11_heardCode_31 : decode cX11_heardCode 31 = .ok (.aaload, 1) := by decide +kernel
theorem dX11_heardCode_32 : decode cX11_heardCode 32 = .ok (.getfield 242, 3) := by decide +kernel
theorem dX11_heardCode_35 : decode cX11_heardCode 35 = .ok (.iconst 1, 1) := by decide +kernel
theorem dX11_heardCode_36 : decode cX11_heardCode 36 = .ok (.bipush 24, 2) := by decide +kernel
theorem dX11_heardCode_38 : decode cX11_heardCode 38 = .ok (.invokestatic 197, 3) := by decide +kernel
theorem dX11_heardCode_41 : decode cX11_heardCode 41 = .ok (.ifCond .eq 7, 3) := by decide +kernel
theorem dX11_heardCode_44 : decode cX11_heardCode 44 = .ok (.iconst 0, 1) := by decide +kernel
theorem dX11_heardCode_45 : decode cX11_heardCode 45 = .ok (.goto 5, 3) := by decide +kernel
theorem dX11_heardCode_48 : decode cX11_heardCode 48 = .ok (.bipush (-4), 2) := by decide +kernel
theorem dX11_heardCode_50 : decode cX11_heardCode 50 = .ok (.ireturn, 1) := by decide +kernel
theorem dX11_slipsOf_0 : decode cX11_slipsOf 0 = .ok (.iconst 0, 1) := by decide +kernel
theorem dX11_slipsOf_1 : decode cX11_slipsOf 1 = .ok (.istore_n 3, 1) := by decide +kernel
theorem dX11_slipsOf_2 : decode cX11_slipsOf 2 = .ok (.iconst 0, 1) := by decide +kernel
theorem dX11_slipsOf_3 : decode cX11_slipsOf 3 = .ok (.istore 4, 2) := by decide +kernel
theorem dX11_slipsOf_5 : decode cX11_slipsOf 5 = .ok (.iload 4, 2) := by decide +kernel
theorem dX11_slipsOf_7 : decode cX11_slipsOf 7 = .ok (.aload_n 1, 1) := by decide +kernel
theorem dX11_slipsOf_8 : decode cX11_slipsOf 8 = .ok (.getfield 242, 3) := by decide +kernel
theorem dX11_slipsOf_11 : decode cX11_slipsOf 11 = .ok (.if_icmp .ge 45, 3) := by decide +kernel
theorem dX11_slipsOf_14 : decode cX11_slipsOf 14 = .ok (.aload_n 1, 1) := by decide +kernel
theorem dX11_slipsOf_15 : decode cX11_slipsOf 15 = .ok (.getfield 243, 3) := by decide +kernel
theorem dX11_slipsOf_18 : decode cX11_slipsOf 18 = .ok (.iload 4, 2) := by decide +kernel
theorem dX11_slipsOf_20 : decode cX11_slipsOf 20 = .ok (.laload, 1) := by decide +kernel
theorem dX11_slipsOf_21 : decode cX11_slipsOf 21 = .ok (.ldc2_w 366, 3) := by decide +kernel
theorem dX11_slipsOf_24 : decode cX11_slipsOf 24 = .ok (.lcmp, 1) := by decide +kernel
theorem dX11_slipsOf_25 : decode cX11_slipsOf 25 = .ok (.ifCond .eq 25, 3) := by decide +kernel
theorem dX11_slipsOf_28 : decode cX11_slipsOf 28 = .ok (.aload_n 1, 1) := by decide +kernel
theorem dX11_slipsOf_29 : decode cX11_slipsOf 29 = .ok (.getfield 243, 3) := by decide +kernel
theorem dX11_slipsOf_32 : decode cX11_slipsOf 32 = .ok (.iload 4, 2) := by decide +kernel
theorem dX11_slipsOf_34 : decode cX11_slipsOf 34 = .ok (.laload, 1) := by decide +kernel
theorem dX11_slipsOf_35 : decode cX11_slipsOf 35 = .ok (.aload_n 0, 1) := by decide +kernel
theorem dX11_slipsOf_36 : decode cX11_slipsOf 36 = .ok (.iload_n 2, 1) := by decide +kernel
theorem dX11_slipsOf_37 : decode cX11_slipsOf 37 = .ok (.iload 4, 2) := by decide +kernel
theorem dX11_slipsOf_39 : decode cX11_slipsOf 39 = .ok (.invokevirtual 201, 3) := by decide +kernel
theorem dX11_slipsOf_42 : decode cX11_slipsOf 42 = .ok (.i2l, 1) := by decide +kernel
theorem dX11_slipsOf_43 : decode cX11_slipsOf 43 = .ok (.lcmp, 1) := by decide +kernel
theorem dX11_slipsOf_44 : decode cX11_slipsOf 44 = .ok (.ifCond .eq 6, 3) := by decide +kernel
theorem dX11_slipsOf_47 : decode cX11_slipsOf 47 = .ok (.iinc 3 1, 3) := by decide +kernel
theorem dX11_slipsOf_50 : decode cX11_slipsOf 50 = .ok (.iinc 4 1, 3) := by decide +kernel
theorem dX11_slipsOf_53 : decode cX11_slipsOf 53 = .ok (.goto (-48), 3) := by decide +kernel
theorem dX11_slipsOf_56 : decode cX11_slipsOf 56 = .ok (.iload_n 3, 1) := by decide +kernel
theorem dX11_slipsOf_57 : decode cX11_slipsOf 57 = .ok (.ireturn, 1) := by decide +kernel
theorem dX11_fitting_0 : decode cX11_fitting 0 = .ok (.iconst 0, 1) := by decide +kernel
theorem dX11_fitting_1 : decode cX11_fitting 1 = .ok (.istore_n 2, 1) := by decide +kernel
theorem dX11_fitting_2 : decode cX11_fitting 2 = .ok (.iconst 0, 1) := by decide +kernel
theorem dX11_fitting_3 : decode cX11_fitting 3 = .ok (.istore_n 3, 1) := by decide +kernel
theorem dX11_fitting_4 : decode cX11_fitting 4 = .ok (.iload_n 3, 1) := by decide +kernel
theorem dX11_fitting_5 : decode cX11_fitting 5 = .ok (.aload_n 0, 1) := by decide +kernel
theorem dX11_fitting_6 : decode cX11_fitting 6 = .ok (.getfield 26, 3) := by decide +kernel
theorem dX11_fitting_9 : decode cX11_fitting 9 = .ok (.getfield 281, 3) := by decide +kernel
theorem dX11_fitting_12 : decode cX11_fitting 12 = .ok (.if_icmp .ge 24, 3) := by decide +kernel
theorem dX11_fitting_15 : decode cX11_fitting 15 = .ok (.aload_n 0, 1) := by decide +kernel
theorem dX11_fitting_16 : decode cX11_fitting 16 = .ok (.aload_n 1, 1) := by decide +kernel
theorem dX11_fitting_17 : decode cX11_fitting 17 = .ok (.iload_n 3, 1) := by decide +kernel
theorem dX11_fitting_18 : decode cX11_fitting 18 = .ok (.invokevirtual 319, 3) := by decide +kernel
theorem dX11_fitting_21 : decode cX11_fitting 21 = .ok (.ifCond .ne 9, 3) := by decide +kernel
theorem dX11_fitting_24 : decode cX11_fitting 24 = .ok (.iload_n 2, 1) := by decide +kernel
theorem dX11_fitting_25 : decode cX11_fitting 25 = .ok (.iconst 1, 1) := by decide +kernel
theorem dX11_fitting_26 : decode cX11_fitting 26 = .ok (.iload_n 3, 1) := by decide +kernel
theorem dX11_fitting_27 : decode cX11_fitting 27 = .ok (.ishl, 1) := by decide +kernel
theorem dX11_fitting_28 : decode cX11_fitting 28 = .ok (.ior, 1) := by decide +kernel
theorem dX11_fitting_29 : decode cX11_fitting 29 = .ok (.istore_n 2, 1) := by decide +kernel
theorem dX11_fitting_30 : decode cX11_fitting 30 = .ok (.iinc 3 1, 3) := by decide +kernel
theorem dX11_fitting_33 : decode cX11_fitting 33 = .ok (.goto (-29), 3) := by decide +kernel
theorem dX11_fitting_36 : decode cX11_fitting 36 = .ok (.iload_n 2, 1) := by decide +kernel
theorem dX11_fitting_37 : decode cX11_fitting 37 = .ok (.ireturn, 1) := by decide +kernel
theorem dX11_mostAlike_0 : decode cX11_mostAlike 0 = .ok (.iconst 0, 1) := by decide +kernel
theorem dX11_mostAlike_1 : decode cX11_mostAlike 1 = .ok (.istore_n 3, 1) := by decide +kernel
theorem dX11_mostAlike_2 : decode cX11_mostAlike 2 = .ok (.iconst 0, 1) := by decide +kernel
theorem dX11_mostAlike_3 : decode cX11_mostAlike 3 = .ok (.istore 4, 2) := by decide +kernel
theorem dX11_mostAlike_5 : decode cX11_mostAlike 5 = .ok (.iload 4, 2) := by decide +kernel
theorem dX11_mostAlike_7 : decode cX11_mostAlike 7 = .ok (.aload_n 0, 1) := by decide +kernel
theorem dX11_mostAlike_8 : decode cX11_mostAlike 8 = .ok (.getfield 26, 3) := by decide +kernel
theorem dX11_mostAlike_11 : decode cX11_mostAlike 11 = .ok (.getfield 281, 3) := by decide +kernel
theorem dX11_mostAlike_14 : decode cX11_mostAlike 14 = .ok (.if_icmp .ge 87, 3) := by decide +kernel
theorem dX11_mostAlike_17 : decode cX11_mostAlike 17 = .ok (.iconst 0, 1) := by decide +kernel
theorem dX11_mostAlike_18 : decode cX11_mostAlike 18 = .ok (.istore 5, 2) := by decide +kernel
theorem dX11_mostAlike_20 : decode cX11_mostAlike 20 = .ok (.iconst 0, 1) := by decide +kernel
theorem dX11_mostAlike_21 : decode cX11_mostAlike 21 = .ok (.istore 6, 2) := by decide +kernel
theorem dX11_mostAlike_23 : decode cX11_mostAlike 23 = .ok (.iload 6, 2) := by decide +kernel
theorem dX11_mostAlike_25 : decode cX11_mostAlike 25 = .ok (.aload_n 0, 1) := by decide +kernel
theorem dX11_mostAlike_26 : decode cX11_mostAlike 26 = .ok (.getfield 26, 3) := by decide +kernel
theorem dX11_mostAlike_29 : decode cX11_mostAlike 29 = .ok (.getfield 281, 3) := by decide +kernel
theorem dX11_mostAlike_32 : decode cX11_mostAlike 32 = .ok (.if_icmp .ge 56, 3) := by decide +kernel
theorem dX11_mostAlike_35 : decode cX11_mostAlike 35 = .ok (.iload_n 1, 1) := by decide +kernel
theorem dX11_mostAlike_36 : decode cX11_mostAlike 36 = .ok (.iload 4, 2) := by decide +kernel
theorem dX11_mostAlike_38 : decode cX11_mostAlike 38 = .ok (.ishr, 1) := by decide +kernel
theorem dX11_mostAlike_39 : decode cX11_mostAlike 39 = .ok (.iload_n 1, 1) := by decide +kernel
theorem dX11_mostAlike_40 : decode cX11_mostAlike 40 = .ok (.iload 6, 2) := by decide +kernel
theorem dX11_mostAlike_42 : decode cX11_mostAlike 42 = .ok (.ishr, 1) := by decide +kernel
theorem dX11_mostAlike_43 : decode cX11_mostAlike 43 = .ok (.iand, 1) := by decide +kernel
theorem dX11_mostAlike_44 : decode cX11_mostAlike 44 = .ok (.iconst 1, 1) := by decide +kernel
theorem dX11_mostAlike_45 : decode cX11_mostAlike 45 = .ok (.iand, 1) := by decide +kernel
theorem dX11_mostAlike_46 : decode cX11_mostAlike 46 = .ok (.iconst 1, 1) := by decide +kernel
theorem dX11_mostAlike_47 : decode cX11_mostAlike 47 = .ok (.if_icmp .ne 7, 3) := by decide +kernel
theorem dX11_mostAlike_50 : decode cX11_mostAlike 50 = .ok (.iconst 1, 1) := by decide +kernel
theorem dX11_mostAlike_51 : decode cX11_mostAlike 51 = .ok (.goto 4, 3) := by decide +kernel
theorem dX11_mostAlike_54 : decode cX11_mostAlike 54 = .ok (.iconst 0, 1) := by decide +kernel
theorem dX11_mostAlike_55 : decode cX11_mostAlike 55 = .ok (.istore 7, 2) := by decide +kernel
theorem dX11_mostAlike_57 : decode cX11_mostAlike 57 = .ok (.iload 7, 2) := by decide +kernel
theorem dX11_mostAlike_59 : decode cX11_mostAlike 59 = .ok (.ifCond .eq 23, 3) := by decide +kernel
theorem dX11_mostAlike_62 : decode cX11_mostAlike 62 = .ok (.aload_n 0, 1) := by decide +kernel
theorem dX11_mostAlike_63 : decode cX11_mostAlike 63 = .ok (.iload 4, 2) := by decide +kernel
theorem dX11_mostAlike_65 : decode cX11_mostAlike 65 = .ok (.iload_n 2, 1) := by decide +kernel
theorem dX11_mostAlike_66 : decode cX11_mostAlike 66 = .ok (.invokevirtual 201, 3) := by decide +kernel
theorem dX11_mostAlike_69 : decode cX11_mostAlike 69 = .ok (.aload_n 0, 1) := by decide +kernel
theorem dX11_mostAlike_70 : decode cX11_mostAlike 70 = .ok (.iload 6, 2) := by decide +kernel
theorem dX11_mostAlike_72 : decode cX11_mostAlike 72 = .ok (.iload_n 2, 1) := by decide +kernel
theorem dX11_mostAlike_73 : decode cX11_mostAlike 73 = .ok (.invokevirtual 201, 3) := by decide +kernel
theorem dX11_mostAlike_76 : decode cX11_mostAlike 76 = .ok (.if_icmp .ne 6, 3) := by decide +kernel
theorem dX11_mostAlike_79 : decode cX11_mostAlike 79 = .ok (.iinc 5 1, 3) := by decide +kernel
theorem dX11_mostAlike_82 : decode cX11_mostAlike 82 = .ok (.iinc 6 1, 3) := by decide +kernel
theorem dX11_mostAlike_85 : decode cX11_mostAlike 85 = .ok (.goto (-62), 3) := by decide +kernel
theorem dX11_mostAlike_88 : decode cX11_mostAlike 88 = .ok (.iload_n 3, 1) := by decide +kernel
theorem dX11_mostAlike_89 : decode cX11_mostAlike 89 = .ok (.iload 5, 2) := by decide +kernel
theorem dX11_mostAlike_91 : decode cX11_mostAlike 91 = .ok (.invokestatic 368, 3) := by decide +kernel
theorem dX11_mostAlike_94 : decode cX11_mostAlike 94 = .ok (.istore_n 3, 1) := by decide +kernel
theorem dX11_mostAlike_95 : decode cX11_mostAlike 95 = .ok (.iinc 4 1, 3) := by decide +kernel
theorem dX11_mostAlike_98 : decode cX11_mostAlike 98 = .ok (.goto (-93), 3) := by decide +kernel
theorem dX11_mostAlike_101 : decode cX11_mostAlike 101 = .ok (.iload_n 3, 1) := by decide +kernel
theorem dX11_mostAlike_102 : decode cX11_mostAlike 102 = .ok (.ireturn, 1) := by decide +kernel
theorem dX11_unlikeHours_0 : decode cX11_unlikeHours 0 = .ok (.iconst 0, 1) := by decide +kernel
theorem dX11_unlikeHours_1 : decode cX11_unlikeHours 1 = .ok (.istore_n 3, 1) := by decide +kernel
theorem dX11_unlikeHours_2 : decode cX11_unlikeHours 2 = .ok (.iconst 0, 1) := by decide +kernel
theorem dX11_unlikeHours_3 : decode cX11_unlikeHours 3 = .ok (.istore 4, 2) := by decide +kernel
theorem dX11_unlikeHours_5 : decode cX11_unlikeHours 5 = .ok (.iload 4, 2) := by decide +kernel
theorem dX11_unlikeHours_7 : decode cX11_unlikeHours 7 = .ok (.bipush 24, 2) := by decide +kernel
theorem dX11_unlikeHours_9 : decode cX11_unlikeHours 9 = .ok (.if_icmp .ge 29, 3) := by decide +kernel
theorem dX11_unlikeHours_12 : decode cX11_unlikeHours 12 = .ok (.aload_n 0, 1) := by decide +kernel
theorem dX11_unlikeHours_13 : decode cX11_unlikeHours 13 = .ok (.iload_n 1, 1) := by decide +kernel
theorem dX11_unlikeHours_14 : decode cX11_unlikeHours 14 = .ok (.iload 4, 2) := by decide +kernel
theorem dX11_unlikeHours_16 : decode cX11_unlikeHours 16 = .ok (.invokevirtual 201, 3) := by decide +kernel
theorem dX11_unlikeHours_19 : decode cX11_unlikeHours 19 = .ok (.aload_n 0, 1) := by decide +kernel
theorem dX11_unlikeHours_20 : decode cX11_unlikeHours 20 = .ok (.iload_n 2, 1) := by decide +kernel
theorem dX11_unlikeHours_21 : decode cX11_unlikeHours 21 = .ok (.iload 4, 2) := by decide +kernel
theorem dX11_unlikeHours_23 : decode cX11_unlikeHours 23 = .ok (.invokevirtual 201, 3) := by decide +kernel
theorem dX11_unlikeHours_26 : decode cX11_unlikeHours 26 = .ok (.if_icmp .eq 6, 3) := by decide +kernel
theorem dX11_unlikeHours_29 : decode cX11_unlikeHours 29 = .ok (.iinc 3 1, 3) := by decide +kernel
theorem dX11_unlikeHours_32 : decode cX11_unlikeHours 32 = .ok (.iinc 4 1, 3) := by decide +kernel
theorem dX11_unlikeHours_35 : decode cX11_unlikeHours 35 = .ok (.goto (-30), 3) := by decide +kernel
theorem dX11_unlikeHours_38 : decode cX11_unlikeHours 38 = .ok (.iload_n 3, 1) := by decide +kernel
theorem dX11_unlikeHours_39 : decode cX11_unlikeHours 39 = .ok (.ireturn, 1) := by decide +kernel
