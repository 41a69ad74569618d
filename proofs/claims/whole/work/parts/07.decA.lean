theorem dX0_init_0 : decode cX0_init 0 = .ok (.aload_n 0, 1) := by decide +kernel
theorem dX0_init_1 : decode cX0_init 1 = .ok (.invokespecial 3, 3) := by decide +kernel
theorem dX0_init_4 : decode cX0_init 4 = .ok (.aload_n 0, 1) := by decide +kernel
theorem dX0_init_5 : decode cX0_init 5 = .ok (.sipush 720, 3) := by decide +kernel
theorem dX0_init_8 : decode cX0_init 8 = .ok (.newarray .int, 2) := by decide +kernel
theorem dX0_init_10 : decode cX0_init 10 = .ok (.putfield 9, 3) := by decide +kernel
theorem dX0_init_13 : decode cX0_init 13 = .ok (.aload_n 0, 1) := by decide +kernel
theorem dX0_init_14 : decode cX0_init 14 = .ok (.sipush 432, 3) := by decide +kernel
theorem dX0_init_17 : decode cX0_init 17 = .ok (.newarray .int, 2) := by decide +kernel
theorem dX0_init_19 : decode cX0_init 19 = .ok (.putfield 15, 3) := by decide +kernel
theorem dX0_init_22 : decode cX0_init 22 = .ok (.aload_n 0, 1) := by decide +kernel
theorem dX0_init_23 : decode cX0_init 23 = .ok (.bipush 6, 2) := by decide +kernel
theorem dX0_init_25 : decode cX0_init 25 = .ok (.newarray .int, 2) := by decide +kernel
theorem dX0_init_27 : decode cX0_init 27 = .ok (.putfield 18, 3) := by decide +kernel
theorem dX0_init_30 : decode cX0_init 30 = .ok (.aload_n 0, 1) := by decide +kernel
theorem dX0_init_31 : decode cX0_init 31 = .ok (.aload_n 1, 1) := by decide +kernel
theorem dX0_init_32 : decode cX0_init 32 = .ok (.putfield 21, 3) := by decide +kernel
theorem dX0_init_35 : decode cX0_init 35 = .ok (.aload_n 0, 1) := by decide +kernel
theorem dX0_init_36 : decode cX0_init 36 = .ok (.aload_n 2, 1) := by decide +kernel
theorem dX0_init_37 : decode cX0_init 37 = .ok (.putfield 25, 3) := by decide +kernel
theorem dX0_init_40 : decode cX0_init 40 = .ok (.aload_n 0, 1) := by decide +kernel
theorem dX0_init_41 : decode cX0_init 41 = .ok (.aload_n 3, 1) := by decide +kernel
theorem dX0_init_42 : decode cX0_init 42 = .ok (.putfield 29, 3) := by decide +kernel
theorem dX0_init_45 : decode cX0_init 45 = .ok (.return_, 1) := by decide +kernel
theorem dX0_lookAhead_0 : decode cX0_lookAhead 0 = .ok (.aload_n 0, 1) := by decide +kernel
theorem dX0_lookAhead_1 : decode cX0_lookAhead 1 = .ok (.iconst 0, 1) := by decide +kernel
theorem dX0_lookAhead_2 : decode cX0_lookAhead 2 = .ok (.bipush 71, 2) := by decide +kernel
theorem dX0_lookAhead_4 : decode cX0_lookAhead 4 = .ok (.iload_n 1, 1) := by decide +kernel
theorem dX0_lookAhead_5 : decode cX0_lookAhead 5 = .ok (.invokestatic 33, 3) := by decide +kernel
theorem dX0_lookAhead_8 : decode cX0_lookAhead 8 = .ok (.invokestatic 39, 3) := by decide +kernel
theorem dX0_lookAhead_11 : decode cX0_lookAhead 11 = .ok (.putfield 42, 3) := by decide +kernel
theorem dX0_lookAhead_14 : decode cX0_lookAhead 14 = .ok (.aload_n 0, 1) := by decide +kernel
theorem dX0_lookAhead_15 : decode cX0_lookAhead 15 = .ok (.getfield 42, 3) := by decide +kernel
theorem dX0_lookAhead_18 : decode cX0_lookAhead 18 = .ok (.istore_n 2, 1) := by decide +kernel
theorem dX0_lookAhead_19 : decode cX0_lookAhead 19 = .ok (.iload_n 2, 1) := by decide +kernel
theorem dX0_lookAhead_20 : decode cX0_lookAhead 20 = .ok (.ifCond .lt 178, 3) := by decide +kernel
theorem dX0_lookAhead_23 : decode cX0_lookAhead 23 = .ok (.aload_n 0, 1) := by decide +kernel
theorem dX0_lookAhead_24 : decode cX0_lookAhead 24 = .ok (.getfield 25, 3) := by decide +kernel
theorem dX0_lookAhead_27 : decode cX0_lookAhead 27 = .ok (.aload_n 0, 1) := by decide +kernel
theorem dX0_lookAhead_28 : decode cX0_lookAhead 28 = .ok (.getfield 29, 3) := by decide +kernel
theorem dX0_lookAhead_31 : decode cX0_lookAhead 31 = .ok (.getfield 46, 3) := by decide +kernel
theorem dX0_lookAhead_34 : decode cX0_lookAhead 34 = .ok (.iload_n 2, 1) := by decide +kernel
theorem dX0_lookAhead_35 : decode cX0_lookAhead 35 = .ok (.iadd, 1) := by decide +kernel
theorem dX0_lookAhead_36 : decode cX0_lookAhead 36 = .ok (.aload_n 0, 1) := by decide +kernel
theorem dX0_lookAhead_37 : decode cX0_lookAhead 37 = .ok (.getfield 29, 3) := by decide +kernel
theorem dX0_lookAhead_40 : decode cX0_lookAhead 40 = .ok (.getfield 51, 3) := by decide +kernel
theorem dX0_lookAhead_43 : decode cX0_lookAhead 43 = .ok (.iload_n 2, 1) := by decide +kernel
theorem dX0_lookAhead_44 : decode cX0_lookAhead 44 = .ok (.if_icmp .le 7, 3) := by decide +kernel
theorem dX0_lookAhead_47 : decode cX0_lookAhead 47 = .ok (.iconst 1, 1) := by decide +kernel
theorem dX0_lookAhead_48 : decode cX0_lookAhead 48 = .ok (.goto 4, 3) := by decide +kernel
theorem dX0_lookAhead_51 : decode cX0_lookAhead 51 = .ok (.iconst 0, 1) := by decide +kernel
theorem dX0_lookAhead_52 : decode cX0_lookAhead 52 = .ok (.invokevirtual 54, 3) := by decide +kernel
theorem dX0_lookAhead_55 : decode cX0_lookAhead 55 = .ok (.istore_n 3, 1) := by decide +kernel
theorem dX0_lookAhead_56 : decode cX0_lookAhead 56 = .ok (.aload_n 0, 1) := by decide +kernel
theorem dX0_lookAhead_57 : decode cX0_lookAhead 57 = .ok (.getfield 25, 3) := by decide +kernel
theorem dX0_lookAhead_60 : decode cX0_lookAhead 60 = .ok (.aload_n 0, 1) := by decide +kernel
theorem dX0_lookAhead_61 : decode cX0_lookAhead 61 = .ok (.getfield 29, 3) := by decide +kernel
theorem dX0_lookAhead_64 : decode cX0_lookAhead 64 = .ok (.getfield 46, 3) := by decide +kernel
theorem dX0_lookAhead_67 : decode cX0_lookAhead 67 = .ok (.iload_n 2, 1) := by decide +kernel
theorem dX0_lookAhead_68 : decode cX0_lookAhead 68 = .ok (.iadd, 1) := by decide +kernel
theorem dX0_lookAhead_69 : decode cX0_lookAhead 69 = .ok (.aload_n 0, 1) := by decide +kernel
theorem dX0_lookAhead_70 : decode cX0_lookAhead 70 = .ok (.getfield 29, 3) := by decide +kernel
theorem dX0_lookAhead_73 : decode cX0_lookAhead 73 = .ok (.getfield 51, 3) := by decide +kernel
theorem dX0_lookAhead_76 : decode cX0_lookAhead 76 = .ok (.iload_n 2, 1) := by decide +kernel
theorem dX0_lookAhead_77 : decode cX0_lookAhead 77 = .ok (.if_icmp .le 7, 3) := by decide +kernel
theorem dX0_lookAhead_80 : decode cX0_lookAhead 80 = .ok (.iconst 1, 1) := by decide +kernel
theorem dX0_lookAhead_81 : decode cX0_lookAhead 81 = .ok (.goto 4, 3) := by decide +kernel
theorem dX0_lookAhead_84 : decode cX0_lookAhead 84 = .ok (.iconst 0, 1) := by decide +kernel
theorem dX0_lookAhead_85 : decode cX0_lookAhead 85 = .ok (.iconst 0, 1) := by decide +kernel
theorem dX0_lookAhead_86 : decode cX0_lookAhead 86 = .ok (.invokevirtual 60, 3) := by decide +kernel
theorem dX0_lookAhead_89 : decode cX0_lookAhead 89 = .ok (.istore 4, 2) := by decide +kernel
theorem dX0_lookAhead_91 : decode cX0_lookAhead 91 = .ok (.iconst 0, 1) := by decide +kernel
theorem dX0_lookAhead_92 : decode cX0_lookAhead 92 = .ok (.istore 5, 2) := by decide +kernel
theorem dX0_lookAhead_94 : decode cX0_lookAhead 94 = .ok (.iload 5, 2) := by decide +kernel
theorem dX0_lookAhead_96 : decode cX0_lookAhead 96 = .ok (.aload_n 0, 1) := by decide +kernel
theorem dX0_lookAhead_97 : decode cX0_lookAhead 97 = .ok (.getfield 21, 3) := by decide +kernel
theorem dX0_lookAhead_100 : decode cX0_lookAhead 100 = .ok (.getfield 64, 3) := by decide +kernel
theorem dX0_lookAhead_103 : decode cX0_lookAhead 103 = .ok (.if_icmp .ge 38, 3) := by decide +kernel
theorem dX0_lookAhead_106 : decode cX0_lookAhead 106 = .ok (.aload_n 0, 1) := by decide +kernel
theorem dX0_lookAhead_107 : decode cX0_lookAhead 107 = .ok (.aload_n 0, 1) := by decide +kernel
theorem dX0_lookAhead_108 : decode cX0_lookAhead 108 = .ok (.getfield 9, 3) := by decide +kernel
theorem dX0_lookAhead_111 : decode cX0_lookAhead 111 = .ok (.iload 5, 2) := by decide +kernel
theorem dX0_lookAhead_113 : decode cX0_lookAhead 113 = .ok (.bipush 72, 2) := by decide +kernel
theorem dX0_lookAhead_115 : decode cX0_lookAhead 115 = .ok (.imul, 1) := by decide +kernel
theorem dX0_lookAhead_116 : decode cX0_lookAhead 116 = .ok (.iload_n 2, 1) := by decide +kernel
theorem dX0_lookAhead_117 : decode cX0_lookAhead 117 = .ok (.iload_n 3, 1) := by decide +kernel
theorem dX0_lookAhead_118 : decode cX0_lookAhead 118 = .ok (.iload 5, 2) := by decide +kernel
theorem dX0_lookAhead_120 : decode cX0_lookAhead 120 = .ok (.ishr, 1) := by decide +kernel
theorem dX0_lookAhead_121 : decode cX0_lookAhead 121 = .ok (.iconst 1, 1) := by decide +kernel
theorem dX0_lookAhead_122 : decode cX0_lookAhead 122 = .ok (.iand, 1) := by decide +kernel
theorem dX0_lookAhead_123 : decode cX0_lookAhead 123 = .ok (.iconst 1, 1) := by decide +kernel
theorem dX0_lookAhead_124 : decode cX0_lookAhead 124 = .ok (.if_icmp .ne 7, 3) := by decide +kernel
theorem dX0_lookAhead_127 : decode cX0_lookAhead 127 = .ok (.iconst 1, 1) := by decide +kernel
theorem dX0_lookAhead_128 : decode cX0_lookAhead 128 = .ok (.goto 4, 3) := by decide +kernel
theorem dX0_lookAhead_131 : decode cX0_lookAhead 131 = .ok (.iconst 0, 1) := by decide +kernel
theorem dX0_lookAhead_132 : decode cX0_lookAhead 132 = .ok (.invokevirtual 69, 3) := by decide +kernel
theorem dX0_lookAhead_135 : decode cX0_lookAhead 135 = .ok (.iinc 5 1, 3) := by decide +kernel
theorem dX0_lookAhead_138 : decode cX0_lookAhead 138 = .ok (.goto (-44), 3) := by decide +kernel
theorem dX0_lookAhead_141 : decode cX0_lookAhead 141 = .ok (.iconst 0, 1) := by decide +kernel
theorem dX0_lookAhead_142 : decode cX0_lookAhead 142 = .ok (.istore 5, 2) := by decide +kernel
theorem dX0_lookAhead_144 : decode cX0_lookAhead 144 = .ok (.iload 5, 2) := by decide +kernel
theorem dX0_lookAhead_146 : decode cX0_lookAhead 146 = .ok (.aload_n 0, 1) := by decide +kernel
theorem dX0_lookAhead_147 : decode cX0_lookAhead 147 = .ok (.getfield 21, 3) := by decide +kernel
theorem dX0_lookAhead_150 : decode cX0_lookAhead 150 = .ok (.getfield 73, 3) := by decide +kernel
theorem dX0_lookAhead_153 : decode cX0_lookAhead 153 = .ok (.if_icmp .ge 39, 3) := by decide +kernel
theorem dX0_lookAhead_156 : decode cX0_lookAhead 156 = .ok (.aload_n 0, 1) := by decide +kernel
theorem dX0_lookAhead_157 : decode cX0_lookAhead 157 = .ok (.aload_n 0, 1) := by decide +kernel
theorem dX0_lookAhead_158 : decode cX0_lookAhead 158 = .ok (.getfield 15, 3) := by decide +kernel
theorem dX0_lookAhead_161 : decode cX0_lookAhead 161 = .ok (.iload 5, 2) := by decide +kernel
theorem dX0_lookAhead_163 : decode cX0_lookAhead 163 = .ok (.bipush 72, 2) := by decide +kernel
theorem dX0_lookAhead_165 : decode cX0_lookAhead 165 = .ok (.imul, 1) := by decide +kernel
theorem dX0_lookAhead_166 : decode cX0_lookAhead 166 = .ok (.iload_n 2, 1) := by decide +kernel
theorem dX0_lookAhead_167 : decode cX0_lookAhead 167 = .ok (.iload 4, 2) := by decide +kernel
theorem dX0_lookAhead_169 : decode cX0_lookAhead 169 = .ok (.iload 5, 2) := by decide +kernel
theorem dX0_lookAhead_171 : decode cX0_lookAhead 171 = .ok (.ishr, 1) := by decide +kernel
theorem dX0_lookAhead_172 : decode cX0_lookAhead 172 = .ok (.iconst 1, 1) := by decide +kernel
theorem dX0_lookAhead_173 : decode cX0_lookAhead 173 = .ok (.iand, 1) := by decide +kernel
theorem dX0_lookAhead_174 : decode cX0_lookAhead 174 = .ok (.iconst 1, 1) := by decide +kernel
theorem dX0_lookAhead_175 : decode cX0_lookAhead 175 = .ok (.if_icmp .ne 7, 3) := by decide +kernel
theorem dX0_lookAhead_178 : decode cX0_lookAhead 178 = .ok (.iconst 1, 1) := by decide +kernel
theorem dX0_lookAhead_179 : decode cX0_lookAhead 179 = .ok (.goto 4, 3) := by decide +kernel
theorem dX0_lookAhead_182 : decode cX0_lookAhead 182 = .ok (.iconst 0, 1) := by decide +kernel
theorem dX0_lookAhead_183 : decode cX0_lookAhead 183 = .ok (.invokevirtual 69, 3) := by decide +kernel
theorem dX0_lookAhead_186 : decode cX0_lookAhead 186 = .ok (.iinc 5 1, 3) := by decide +kernel
theorem dX0_lookAhead_189 : decode cX0_lookAhead 189 = .ok (.goto (-45), 3) := by decide +kernel
theorem dX0_lookAhead_192 : decode cX0_lookAhead 192 = .ok (.iinc 2 (-1), 3) := by decide +kernel
theorem dX0_lookAhead_195 : decode cX0_lookAhead 195 = .ok (.goto (-176), 3) := by decide +kernel
theorem dX0_lookAhead_198 : decode cX0_lookAhead 198 = .ok (.return_, 1) := by decide +kernel
theorem dX0_fillIn_0 : decode cX0_fillIn 0 = .ok (.iload 4, 2) := by decide +kernel
theorem dX0_fillIn_2 : decode cX0_fillIn 2 = .ok (.ifCond .eq 12, 3) := by decide +kernel
theorem dX0_fillIn_5 : decode cX0_fillIn 5 = .ok (.aload_n 1, 1) := by decide +kernel
theorem dX0_fillIn_6 : decode cX0_fillIn 6 = .ok (.iload_n 2, 1) := by decide +kernel
theorem dX0_fillIn_7 : decode cX0_fillIn 7 = .ok (.iload_n 3, 1) := by decide +kernel
theorem dX0_fillIn_8 : decode cX0_fillIn 8 = .ok (.iadd, 1) := by decide +kernel
theorem dX0_fillIn_9 : decode cX0_fillIn 9 = .ok (.iload_n 3, 1) := by decide +kernel
theorem dX0_fillIn_10 : decode cX0_fillIn 10 = .ok (.iastore, 1) := by decide +kernel
theorem dX0_fillIn_11 : decode cX0_fillIn 11 = .ok (.goto 28, 3) := by decide +kernel
theorem dX0_fillIn_14 : decode cX0_fillIn 14 = .ok (.aload_n 1, 1) := by decide +kernel
theorem dX0_fillIn_15 : decode cX0_fillIn 15 = .ok (.iload_n 2, 1) := by decide +kernel
theorem dX0_fillIn_16 : decode cX0_fillIn 16 = .ok (.iload_n 3, 1) := by decide +kernel
theorem dX0_fillIn_17 : decode cX0_fillIn 17 = .ok (.iadd, 1) := by decide +kernel
theorem dX0_fillIn_18 : decode cX0_fillIn 18 = .ok (.iload_n 3, 1) := by decide +kernel
theorem dX0_fillIn_19 : decode cX0_fillIn 19 = .ok (.aload_n 0, 1) := by decide +kernel
theorem dX0_fillIn_20 : decode cX0_fillIn 20 = .ok (.getfield 42, 3) := by decide +kernel
theorem dX0_fillIn_23 : decode cX0_fillIn 23 = .ok (.if_icmp .ge 13, 3) := by decide +kernel
theorem dX0_fillIn_26 : decode cX0_fillIn 26 = .ok (.aload_n 1, 1) := by decide +kernel
theorem dX0_fillIn_27 : decode cX0_fillIn 27 = .ok (.iload_n 2, 1) := by decide +kernel
theorem dX0_fillIn_28 : decode cX0_fillIn 28 = .ok (.iload_n 3, 1) := by decide +kernel
theorem dX0_fillIn_29 : decode cX0_fillIn 29 = .ok (.iadd, 1) := by decide +kernel
theorem dX0_fillIn_30 : decode cX0_fillIn 30 = .ok (.iconst 1, 1) := by decide +kernel
theorem dX0_fillIn_31 : decode cX0_fillIn 31 = .ok (.iadd, 1) := by decide +kernel
theorem dX0_fillIn_32 : decode cX0_fillIn 32 = .ok (.iaload, 1) := by decide +kernel
theorem dX0_fillIn_33 : decode cX0_fillIn 33 = .ok (.goto 5, 3) := by decide +kernel
theorem dX0_fillIn_36 : decode cX0_fillIn 36 = .ok (.ldc 76, 2) := by decide +kernel
theorem dX0_fillIn_38 : decode cX0_fillIn 38 = .ok (.iastore, 1) := by decide +kernel
theorem dX0_fillIn_39 : decode cX0_fillIn 39 = .ok (.return_, 1) := by decide +kernel
theorem dX0_send_0 : decode cX0_send 0 = .ok (.aload_n 0, 1) := by decide +kernel
theorem dX0_send_1 : decode cX0_send 1 = .ok (.iload_n 2, 1) := by decide +kernel
theorem dX0_send_2 : decode cX0_send 2 = .ok (.putfield 77, 3) := by decide +kernel
theorem dX0_send_5 : decode cX0_send 5 = .ok (.aload_n 0, 1) := by decide +kernel
theorem dX0_send_6 : decode cX0_send 6 = .ok (.getfield 18, 3) := by decide +kernel
theorem dX0_send_9 : decode cX0_send 9 = .ok (.ldc 76, 2) := by decide +kernel
theorem dX0_send_11 : decode cX0_send 11 = .ok (.invokestatic 80, 3) := by decide +kernel
theorem dX0_send_14 : decode cX0_send 14 = .ok (.aload_n 0, 1) := by decide +kernel
theorem dX0_send_15 : decode cX0_send 15 = .ok (.getfield 18, 3) := by decide +kernel
theorem dX0_send_18 : decode cX0_send 18 = .ok (.iload_n 1, 1) := by decide +kernel
theorem dX0_send_19 : decode cX0_send 19 = .ok (.iload_n 2, 1) := by decide +kernel
theorem dX0_send_20 : decode cX0_send 20 = .ok (.iastore, 1) := by decide +kernel
theorem dX0_send_21 : decode cX0_send 21 = .ok (.iconst 1, 1) := by decide +kernel
theorem dX0_send_22 : decode cX0_send 22 = .ok (.istore 4, 2) := by decide +kernel
theorem dX0_send_24 : decode cX0_send 24 = .ok (.iconst 0, 1) := by decide +kernel
theorem dX0_send_25 : decode cX0_send 25 = .ok (.istore 5, 2) := by decide +kernel
theorem dX0_send_27 : decode cX0_send 27 = .ok (.iload 5, 2) := by decide +kernel
theorem dX0_send_29 : decode cX0_send 29 = .ok (.bipush 6, 2) := by decide +kernel
theorem dX0_send_31 : decode cX0_send 31 = .ok (.if_icmp .ge 101, 3) := by decide +kernel
theorem dX0_send_34 : decode cX0_send 34 = .ok (.iload 4, 2) := by decide +kernel
theorem dX0_send_36 : decode cX0_send 36 = .ok (.ifCond .eq 96, 3) := by decide +kernel
theorem dX0_send_39 : decode cX0_send 39 = .ok (.iconst 0, 1) := by decide +kernel
theorem dX0_send_40 : decode cX0_send 40 = .ok (.istore 4, 2) := by decide +kernel
theorem dX0_send_42 : decode cX0_send 42 = .ok (.iconst 0, 1) := by decide +kernel
theorem dX0_send_43 : decode cX0_send 43 = .ok (.istore 6, 2) := by decide +kernel
theorem dX0_send_45 : decode cX0_send 45 = .ok (.iload 6, 2) := by decide +kernel
theorem dX0_send_47 : decode cX0_send 47 = .ok (.aload_n 0, 1) := by decide +kernel
theorem dX0_send_48 : decode cX0_send 48 = .ok (.getfield 21, 3) := by decide +kernel
theorem dX0_send_51 : decode cX0_send 51 = .ok (.getfield 64, 3) := by decide +kernel
theorem dX0_send_54 : decode cX0_send 54 = .ok (.if_icmp .ge 72, 3) := by decide +kernel
theorem dX0_send_57 : decode cX0_send 57 = .ok (.iload_n 3, 1) := by decide +kernel
theorem dX0_send_58 : decode cX0_send 58 = .ok (.iload 6, 2) := by decide +kernel
theorem dX0_send_60 : decode cX0_send 60 = .ok (.ishr, 1) := by decide +kernel
theorem dX0_send_61 : decode cX0_send 61 = .ok (.iconst 1, 1) := by decide +kernel
theorem dX0_send_62 : decode cX0_send 62 = .ok (.iand, 1) := by decide +kernel
theorem dX0_send_63 : decode cX0_send 63 = .ok (.iconst 1, 1) := by decide +kernel
theorem dX0_send_64 : decode cX0_send 64 = .ok (.if_icmp .ne 8, 3) := by decide +kernel
theorem dX0_send_67 : decode cX0_send 67 = .ok (.ldc 76, 2) := by decide +kernel
theorem dX0_send_69 : decode cX0_send 69 = .ok (.goto 9, 3) := by decide +kernel
theorem dX0_send_72 : decode cX0_send 72 = .ok (.aload_n 0, 1) := by decide +kernel
theorem dX0_send_73 : decode cX0_send 73 = .ok (.iload 6, 2) := by decide +kernel
theorem dX0_send_75 : decode cX0_send 75 = .ok (.invokevirtual 86, 3) := by decide +kernel
theorem dX0_send_78 : decode cX0_send 78 = .ok (.istore 7, 2) := by decide +kernel
theorem dX0_send_80 : decode cX0_send 80 = .ok (.iload 7, 2) := by decide +kernel
theorem dX0_send_82 : decode cX0_send 82 = .ok (.aload_n 0, 1) := by decide +kernel
theorem dX0_send_83 : decode cX0_send 83 = .ok (.getfield 18, 3) := by decide +kernel
theorem dX0_send_86 : decode cX0_send 86 = .ok (.aload_n 0, 1) := by decide +kernel
theorem dX0_send_87 : decode cX0_send 87 = .ok (.getfield 21, 3) := by decide +kernel
theorem dX0_send_90 : decode cX0_send 90 = .ok (.getfield 90, 3) := by decide +kernel
theorem dX0_send_93 : decode cX0_send 93 = .ok (.iload 6, 2) := by decide +kernel
theorem dX0_send_95 : decode cX0_send 95 = .ok (.iaload, 1) := by decide +kernel
theorem dX0_send_96 : decode cX0_send 96 = .ok (.iaload, 1) := by decide +kernel
theorem dX0_send_97 : decode cX0_send 97 = .ok (.if_icmp .ge 23, 3) := by decide +kernel
theorem dX0_send_100 : decode cX0_send 100 = .ok (.aload_n 0, 1) := by decide +kernel
theorem dX0_send_101 : decode cX0_send 101 = .ok (.getfield 18, 3) := by decide +kernel
theorem dX0_send_104 : decode cX0_send 104 = .ok (.aload_n 0, 1) := by decide +kernel
theorem dX0_send_105 : decode cX0_send 105 = .ok (.getfield 21, 3) := by decide +kernel
theorem dX0_send_108 : decode cX0_send 108 = .ok (.getfield 90, 3) := by decide +kernel
theorem dX0_send_111 : decode cX0_send 111 = .ok (.iload 6, 2) := by decide +kernel
theorem dX0_send_113 : decode cX0_send 113 = .ok (.iaload, 1) := by decide +kernel
theorem dX0_send_114 : decode cX0_send 114 = .ok (.iload 7, 2) := by decide +kernel
theorem dX0_send_116 : decode cX0_send 116 = .ok (.iastore, 1) := by decide +kernel
theorem dX0_send_117 : decode cX0_send 117 = .ok (.iconst 1, 1) := by decide +kernel
theorem dX0_send_118 : decode cX0_send 118 = .ok (.istore 4, 2) := by decide +kernel
theorem dX0_send_120 : decode cX0_send 120 = .ok (.iinc 6 1, 3) := by decide +kernel
theorem dX0_send_123 : decode cX0_send 123 = .ok (.goto (-78), 3) := by decide +kernel
theorem dX0_send_126 : decode cX0_send 126 = .ok (.iinc 5 1, 3) := by decide +kernel
theorem dX0_send_129 : decode cX0_send 129 = .ok (.goto (-102), 3) := by decide +kernel
theorem dX0_send_132 : decode cX0_send 132 = .ok (.return_, 1) := by decide +kernel
theorem dX0_arrivalBy_0 : decode cX0_arrivalBy 0 = .ok (.aload_n 0, 1) := by decide +kernel
theorem dX0_arrivalBy_1 : decode cX0_arrivalBy 1 = .ok (.getfield 18, 3) := by decide +kernel
theorem dX0_arrivalBy_4 : decode cX0_arrivalBy 4 = .ok (.aload_n 0, 1) := by decide +kernel
theorem dX0_arrivalBy_5 : decode cX0_arrivalBy 5 = .ok (.getfield 21, 3) := by decide +kernel
theorem dX0_arrivalBy_8 : decode cX0_arrivalBy 8 = .ok (.getfield 93, 3) := by decide +kernel
theorem dX0_arrivalBy_11 : decode cX0_arrivalBy 11 = .ok (.iload_n 1, 1) := by decide +kernel
theorem dX0_arrivalBy_12 : decode cX0_arrivalBy 12 = .ok (.iaload, 1) := by decide +kernel
theorem dX0_arrivalBy_13 : decode cX0_arrivalBy 13 = .ok (.iaload, 1) := by decide +kernel
theorem dX0_arrivalBy_14 : decode cX0_arrivalBy 14 = .ok (.istore_n 2, 1) := by decide +kernel
theorem dX0_arrivalBy_15 : decode cX0_arrivalBy 15 = .ok (.iload_n 2, 1) := by decide +kernel
theorem dX0_arrivalBy_16 : decode cX0_arrivalBy 16 = .ok (.aload_n 0, 1) := by decide +kernel
theorem dX0_arrivalBy_17 : decode cX0_arrivalBy 17 = .ok (.getfield 42, 3) := by decide +kernel
theorem dX0_arrivalBy_20 : decode cX0_arrivalBy 20 = .ok (.if_icmp .le 8, 3) := by decide +kernel
theorem dX0_arrivalBy_23 : decode cX0_arrivalBy 23 = .ok (.ldc 76, 2) := by decide +kernel
theorem dX0_arrivalBy_25 : decode cX0_arrivalBy 25 = .ok (.goto 24, 3) := by decide +kernel
theorem dX0_arrivalBy_28 : decode cX0_arrivalBy 28 = .ok (.aload_n 0, 1) := by decide +kernel
theorem dX0_arrivalBy_29 : decode cX0_arrivalBy 29 = .ok (.getfield 9, 3) := by decide +kernel
theorem dX0_arrivalBy_32 : decode cX0_arrivalBy 32 = .ok (.iload_n 1, 1) := by decide +kernel
theorem dX0_arrivalBy_33 : decode cX0_arrivalBy 33 = .ok (.bipush 72, 2) := by decide +kernel
theorem dX0_arrivalBy_35 : decode cX0_arrivalBy 35 = .ok (.imul, 1) := by decide +kernel
theorem dX0_arrivalBy_36 : decode cX0_arrivalBy 36 = .ok (.iload_n 2, 1) := by decide +kernel
theorem dX0_arrivalBy_37 : decode cX0_arrivalBy 37 = .ok (.iadd, 1) := by decide +kernel
theorem dX0_arrivalBy_38 : decode cX0_arrivalBy 38 = .ok (.iaload, 1) := by decide +kernel
theorem dX0_arrivalBy_39 : decode cX0_arrivalBy 39 = .ok (.aload_n 0, 1) := by decide +kernel
theorem dX0_arrivalBy_40 : decode cX0_arrivalBy 40 = .ok (.getfield 21, 3) := by decide +kernel
theorem dX0_arrivalBy_43 : decode cX0_arrivalBy 43 = .ok (.getfield 96, 3) := by decide +kernel
theorem dX0_arrivalBy_46 : decode cX0_arrivalBy 46 = .ok (.iload_n 1, 1) := by decide +kernel
theorem dX0_arrivalBy_47 : decode cX0_arrivalBy 47 = .ok (.iaload, 1) := by decide +kernel
theorem dX0_arrivalBy_48 : decode cX0_arrivalBy 48 = .ok (.iadd, 1) := by decide +kernel
theorem dX0_arrivalBy_49 : decode cX0_arrivalBy 49 = .ok (.ireturn, 1) := by decide +kernel
theorem dX0_beachesBy_0 : decode cX0_beachesBy 0 = .ok (.iconst 0, 1) := by decide +kernel
theorem dX0_beachesBy_1 : decode cX0_beachesBy 1 = .ok (.istore_n 2, 1) := by decide +kernel
theorem dX0_beachesBy_2 : decode cX0_beachesBy 2 = .ok (.iconst 0, 1) := by decide +kernel
theorem dX0_beachesBy_3 : decode cX0_beachesBy 3 = .ok (.istore_n 3, 1) := by decide +kernel
theorem dX0_beachesBy_4 : decode cX0_beachesBy 4 = .ok (.iload_n 3, 1) := by decide +kernel
theorem dX0_beachesBy_5 : decode cX0_beachesBy 5 = .ok (.aload_n 0, 1) := by decide +kernel
theorem dX0_beachesBy_6 : decode cX0_beachesBy 6 = .ok (.getfield 21, 3) := by decide +kernel
theorem dX0_beachesBy_9 : decode cX0_beachesBy 9 = .ok (.getfield 99, 3) := by decide +kernel
theorem dX0_beachesBy_12 : decode cX0_beachesBy 12 = .ok (.if_icmp .ge 25, 3) := by decide +kernel
theorem dX0_beachesBy_15 : decode cX0_beachesBy 15 = .ok (.aload_n 0, 1) := by decide +kernel
theorem dX0_beachesBy_16 : decode cX0_beachesBy 16 = .ok (.getfield 18, 3) := by decide +kernel
theorem dX0_beachesBy_19 : decode cX0_beachesBy 19 = .ok (.iload_n 3, 1) := by decide +kernel
theorem dX0_beachesBy_20 : decode cX0_beachesBy 20 = .ok (.iaload, 1) := by decide +kernel
theorem dX0_beachesBy_21 : decode cX0_beachesBy 21 = .ok (.iload_n 1, 1) := by decide +kernel
theorem dX0_beachesBy_22 : decode cX0_beachesBy 22 = .ok (.if_icmp .gt 9, 3) := by decide +kernel
theorem dX0_beachesBy_25 : decode cX0_beachesBy 25 = .ok (.iload_n 2, 1) := by decide +kernel
theorem dX0_beachesBy_26 : decode cX0_beachesBy 26 = .ok (.iconst 1, 1) := by decide +kernel
theorem dX0_beachesBy_27 : decode cX0_beachesBy 27 = .ok (.iload_n 3, 1) := by decide +kernel
theorem dX0_beachesBy_28 : decode cX0_beachesBy 28 = .ok (.ishl, 1) := by decide +kernel
theorem dX0_beachesBy_29 : decode cX0_beachesBy 29 = .ok (.ior, 1) := by decide +kernel
theorem dX0_beachesBy_30 : decode cX0_beachesBy 30 = .ok (.istore_n 2, 1) := by decide +kernel
theorem dX0_beachesBy_31 : decode cX0_beachesBy 31 = .ok (.iinc 3 1, 3) := by decide +kernel
theorem dX0_beachesBy_34 : decode cX0_beachesBy 34 = .ok (.goto (-30), 3) := by decide +kernel
theorem dX0_beachesBy_37 : decode cX0_beachesBy 37 = .ok (.iload_n 2, 1) := by decide +kernel
theorem dX0_beachesBy_38 : decode cX0_beachesBy 38 = .ok (.ireturn, 1) := by decide +kernel
theorem dX0_hourHeard_0 : decode cX0_hourHeard 0 = .ok (.aload_n 0, 1) := by decide +kernel
theorem dX0_hourHeard_1 : decode cX0_hourHeard 1 = .ok (.getfield 29, 3) := by decide +kernel
theorem dX0_hourHeard_4 : decode cX0_hourHeard 4 = .ok (.aload_n 0, 1) := by decide +kernel
theorem dX0_hourHeard_5 : decode cX0_hourHeard 5 = .ok (.getfield 21, 3) := by decide +kernel
theorem dX0_hourHeard_8 : decode cX0_hourHeard 8 = .ok (.iload_n 1, 1) := by decide +kernel
theorem dX0_hourHeard_9 : decode cX0_hourHeard 9 = .ok (.invokevirtual 102, 3) := by decide +kernel
theorem dX0_hourHeard_12 : decode cX0_hourHeard 12 = .ok (.istore_n 2, 1) := by decide +kernel
theorem dX0_hourHeard_13 : decode cX0_hourHeard 13 = .ok (.ldc 76, 2) := by decide +kernel
theorem dX0_hourHeard_15 : decode cX0_hourHeard 15 = .ok (.istore_n 3, 1) := by decide +kernel
theorem dX0_hourHeard_16 : decode cX0_hourHeard 16 = .ok (.iconst 0, 1) := by decide +kernel
theorem dX0_hourHeard_17 : decode cX0_hourHeard 17 = .ok (.istore 4, 2) := by decide +kernel
theorem dX0_hourHeard_19 : decode cX0_hourHeard 19 = .ok (.iload 4, 2) := by decide +kernel
theorem dX0_hourHeard_21 : decode cX0_hourHeard 21 = .ok (.aload_n 0, 1) := by decide +kernel
theorem dX0_hourHeard_22 : decode cX0_hourHeard 22 = .ok (.getfield 21, 3) := by decide +kernel
theorem dX0_hourHeard_25 : decode cX0_hourHeard 25 = .ok (.getfield 99, 3) := by decide +kernel
theorem dX0_hourHeard_28 : decode cX0_hourHeard 28 = .ok (.if_icmp .ge 31, 3) := by decide +kernel
theorem dX0_hourHeard_31 : decode cX0_hourHeard 31 = .ok (.iload_n 2, 1) := by decide +kernel
theorem dX0_hourHeard_32 : decode cX0_hourHeard 32 = .ok (.iload 4, 2) := by decide +kernel
theorem dX0_hourHeard_34 : decode cX0_hourHeard 34 = .ok (.ishr, 1) := by decide +kernel
theorem dX0_hourHeard_35 : decode cX0_hourHeard 35 = .ok (.iconst 1, 1) := by decide +kernel
theorem dX0_hourHeard_36 : decode cX0_hourHeard 36 = .ok (.iand, 1) := by decide +kernel
theorem dX0_hourHeard_37 : decode cX0_hourHeard 37 = .ok (.iconst 1, 1) := by decide +kernel
theorem dX0_hourHeard_38 : decode cX0_hourHeard 38 = .ok (.if_icmp .ne 15, 3) := by decide +kernel
theorem dX0_hourHeard_41 : decode cX0_hourHeard 41 = .ok (.iload_n 3, 1) := by decide +kernel
theorem dX0_hourHeard_42 : decode cX0_hourHeard 42 = .ok (.aload_n 0, 1) := by decide +kernel
theorem dX0_hourHeard_43 : decode cX0_hourHeard 43 = .ok (.getfield 18, 3) := by decide +kernel
theorem dX0_hourHeard_46 : decode cX0_hourHeard 46 = .ok (.iload 4, 2) := by decide +kernel
theorem dX0_hourHeard_48 : decode cX0_hourHeard 48 = .ok (.iaload, 1) := by decide +kernel
theorem dX0_hourHeard_49 : decode cX0_hourHeard 49 = .ok (.invokestatic 33, 3) := by decide +kernel
theorem dX0_hourHeard_52 : decode cX0_hourHeard 52 = .ok (.istore_n 3, 1) := by decide +kernel
theorem dX0_hourHeard_53 : decode cX0_hourHeard 53 = .ok (.iinc 4 1, 3) := by decide +kernel
theorem dX0_hourHeard_56 : decode cX0_hourHeard 56 = .ok (.goto (-37), 3) := by decide +kernel
theorem dX0_hourHeard_59 : decode cX0_hourHeard 59 = .ok (.aload_n 0, 1) := by decide +kernel
theorem dX0_hourHeard_60 : decode cX0_hourHeard 60 = .ok (.iload_n 3, 1) := by decide +kernel
theorem dX0_hourHeard_61 : decode cX0_hourHeard 61 = .ok (.iload_n 1, 1) := by decide +kernel
theorem dX0_hourHeard_62 : decode cX0_hourHeard 62 = .ok (.invokevirtual 106, 3) := by decide +kernel
theorem dX0_hourHeard_65 : decode cX0_hourHeard 65 = .ok (.ireturn, 1) := by decide +kernel
theorem dX0_hourHeardFrom_0 : decode cX0_hourHeardFrom 0 = .ok (.iload_n 1, 1) := by decide +kernel
theorem dX0_hourHeardFrom_1 : decode cX0_hourHeardFrom 1 = .ok (.aload_n 0, 1) := by decide +kernel
theorem dX0_hourHeardFrom_2 : decode cX0_hourHeardFrom 2 = .ok (.getfield 77, 3) := by decide +kernel
theorem dX0_hourHeardFrom_5 : decode cX0_hourHeardFrom 5 = .ok (.iconst 1, 1) := by decide +kernel
theorem dX0_hourHeardFrom_6 : decode cX0_hourHeardFrom 6 = .ok (.iadd, 1) := by decide +kernel
theorem dX0_hourHeardFrom_7 : decode cX0_hourHeardFrom 7 = .ok (.invokestatic 39, 3) := by decide +kernel
theorem dX0_hourHeardFrom_10 : decode cX0_hourHeardFrom 10 = .ok (.istore_n 3, 1) := by decide +kernel
theorem dX0_hourHeardFrom_11 : decode cX0_hourHeardFrom 11 = .ok (.iload_n 3, 1) := by decide +kernel
theorem dX0_hourHeardFrom_12 : decode cX0_hourHeardFrom 12 = .ok (.aload_n 0, 1) := by decide +kernel
theorem dX0_hourHeardFrom_13 : decode cX0_hourHeardFrom 13 = .ok (.getfield 42, 3) := by decide +kernel
theorem dX0_hourHeardFrom_16 : decode cX0_hourHeardFrom 16 = .ok (.if_icmp .le 8, 3) := by decide +kernel
theorem dX0_hourHeardFrom_19 : decode cX0_hourHeardFrom 19 = .ok (.ldc 76, 2) := by decide +kernel
theorem dX0_hourHeardFrom_21 : decode cX0_hourHeardFrom 21 = .ok (.goto 14, 3) := by decide +kernel
theorem dX0_hourHeardFrom_24 : decode cX0_hourHeardFrom 24 = .ok (.aload_n 0, 1) := by decide +kernel
theorem dX0_hourHeardFrom_25 : decode cX0_hourHeardFrom 25 = .ok (.getfield 15, 3) := by decide +kernel
theorem dX0_hourHeardFrom_28 : decode cX0_hourHeardFrom 28 = .ok (.iload_n 2, 1) := by decide +kernel
theorem dX0_hourHeardFrom_29 : decode cX0_hourHeardFrom 29 = .ok (.bipush 72, 2) := by decide +kernel
theorem dX0_hourHeardFrom_31 : decode cX0_hourHeardFrom 31 = .ok (.imul, 1) := by decide +kernel
theorem dX0_hourHeardFrom_32 : decode cX0_hourHeardFrom 32 = .ok (.iload_n 3, 1) := by decide +kernel
theorem dX0_hourHeardFrom_33 : decode cX0_hourHeardFrom 33 = .ok (.iadd, 1) := by decide +kernel
theorem dX0_hourHeardFrom_34 : decode cX0_hourHeardFrom 34 = .ok (.iaload, 1) := by decide +kernel
theorem dX0_hourHeardFrom_35 : decode cX0_hourHeardFrom 35 = .ok (.ireturn, 1) := by decide +kernel
theorem dX0_hearersBy_0 : decode cX0_hearersBy 0 = .ok (.iconst 0, 1) := by decide +kernel
theorem dX0_hearersBy_1 : decode cX0_hearersBy 1 = .ok (.istore_n 2, 1) := by decide +kernel
theorem dX0_hearersBy_2 : decode cX0_hearersBy 2 = .ok (.iconst 0, 1) := by decide +kernel
theorem dX0_hearersBy_3 : decode cX0_hearersBy 3 = .ok (.istore_n 3, 1) := by decide +kernel
theorem dX0_hearersBy_4 : decode cX0_hearersBy 4 = .ok (.iload_n 3, 1) := by decide +kernel
theorem dX0_hearersBy_5 : decode cX0_hearersBy 5 = .ok (.aload_n 0, 1) := by decide +kernel
theorem dX0_hearersBy_6 : decode cX0_hearersBy 6 = .ok (.getfield 21, 3) := by decide +kernel
theorem dX0_hearersBy_9 : decode cX0_hearersBy 9 = .ok (.getfield 73, 3) := by decide +kernel
theorem dX0_hearersBy_12 : decode cX0_hearersBy 12 = .ok (.if_icmp .ge 24, 3) := by decide +kernel
theorem dX0_hearersBy_15 : decode cX0_hearersBy 15 = .ok (.aload_n 0, 1) := by decide +kernel
theorem dX0_hearersBy_16 : decode cX0_hearersBy 16 = .ok (.iload_n 3, 1) := by decide +kernel
theorem dX0_hearersBy_17 : decode cX0_hearersBy 17 = .ok (.invokevirtual 109, 3) := by decide +kernel
theorem dX0_hearersBy_20 : decode cX0_hearersBy 20 = .ok (.iload_n 1, 1) := by decide +kernel
theorem dX0_hearersBy_21 : decode cX0_hearersBy 21 = .ok (.if_icmp .gt 9, 3) := by decide +kernel
theorem dX0_hearersBy_24 : decode cX0_hearersBy 24 = .ok (.iload_n 2, 1) := by decide +kernel
theorem dX0_hearersBy_25 : decode cX0_hearersBy 25 = .ok (.iconst 1, 1) := by decide +kernel
theorem dX0_hearersBy_26 : decode cX0_hearersBy 26 = .ok (.iload_n 3, 1) := by decide +kernel
theorem dX0_hearersBy_27 : decode cX0_hearersBy 27 = .ok (.ishl, 1) := by decide +kernel
theorem dX0_hearersBy_28 : decode cX0_hearersBy 28 = .ok (.ior, 1) := by decide +kernel
theorem dX0_hearersBy_29 : decode cX0_hearersBy 29 = .ok (.istore_n 2, 1) := by decide +kernel
theorem dX0_hearersBy_30 : decode cX0_hearersBy 30 = .ok (.iinc 3 1, 3) := by decide +kernel
theorem dX0_hearersBy_33 : decode cX0_hearersBy 33 = .ok (.goto (-29), 3) := by decide +kernel
theorem dX0_hearersBy_36 : decode cX0_hearersBy 36 = .ok (.iload_n 2, 1) := by decide +kernel
theorem dX0_hearersBy_37 : decode cX0_hearersBy 37 = .ok (.ireturn, 1) := by decide +kernel
theorem dX0_fewestToShut_0 : decode cX0_fewestToShut 0 = .ok (.iconst 1, 1) := by decide +kernel
theorem dX0_fewestToShut_1 : decode cX0_fewestToShut 1 = .ok (.aload_n 0, 1) := by decide +kernel
theorem dX0_fewestToShut_2 : decode cX0_fewestToShut 2 = .ok (.getfield 21, 3) := by decide +kernel
theorem dX0_fewestToShut_5 : decode cX0_fewestToShut 5 = .ok (.getfield 64, 3) := by decide +kernel
theorem dX0_fewestToShut_8 : decode cX0_fewestToShut 8 = .ok (.ishl, 1) := by decide +kernel
theorem dX0_fewestToShut_9 : decode cX0_fewestToShut 9 = .ok (.iconst 1, 1) := by decide +kernel
theorem dX0_fewestToShut_10 : decode cX0_fewestToShut 10 = .ok (.isub, 1) := by decide +kernel
theorem dX0_fewestToShut_11 : decode cX0_fewestToShut 11 = .ok (.istore 4, 2) := by decide +kernel
theorem dX0_fewestToShut_13 : decode cX0_fewestToShut 13 = .ok (.aload_n 0, 1) := by decide +kernel
theorem dX0_fewestToShut_14 : decode cX0_fewestToShut 14 = .ok (.iload_n 1, 1) := by decide +kernel
theorem dX0_fewestToShut_15 : decode cX0_fewestToShut 15 = .ok (.iconst 0, 1) := by decide +kernel
theorem dX0_fewestToShut_16 : decode cX0_fewestToShut 16 = .ok (.iload 4, 2) := by decide +kernel
theorem dX0_fewestToShut_18 : decode cX0_fewestToShut 18 = .ok (.invokevirtual 112, 3) := by decide +kernel
theorem dX0_fewestToShut_21 : decode cX0_fewestToShut 21 = .ok (.aload_n 0, 1) := by decide +kernel
theorem dX0_fewestToShut_22 : decode cX0_fewestToShut 22 = .ok (.iload_n 2, 1) := by decide +kernel
theorem dX0_fewestToShut_23 : decode cX0_fewestToShut 23 = .ok (.invokevirtual 109, 3) := by decide +kernel
theorem dX0_fewestToShut_26 : decode cX0_fewestToShut 26 = .ok (.iload_n 3, 1) := by decide +kernel
theorem dX0_fewestToShut_27 : decode cX0_fewestToShut 27 = .ok (.if_icmp .gt 5, 3) := by decide +kernel
theorem dX0_fewestToShut_30 : decode cX0_fewestToShut 30 = .ok (.iconst (-1), 1) := by decide +kernel
theorem dX0_fewestToShut_31 : decode cX0_fewestToShut 31 = .ok (.ireturn, 1) := by decide +kernel
theorem dX0_fewestToShut_32 : decode cX0_fewestToShut 32 = .ok (.iload 4, 2) := by decide +kernel
theorem dX0_fewestToShut_34 : decode cX0_fewestToShut 34 = .ok (.istore 5, 2) := by decide +kernel
theorem dX0_fewestToShut_36 : decode cX0_fewestToShut 36 = .ok (.iconst 0, 1) := by decide +kernel
theorem dX0_fewestToShut_37 : decode cX0_fewestToShut 37 = .ok (.istore 6, 2) := by decide +kernel
theorem dX0_fewestToShut_39 : decode cX0_fewestToShut 39 = .ok (.iload 6, 2) := by decide +kernel
theorem dX0_fewestToShut_41 : decode cX0_fewestToShut 41 = .ok (.iload 4, 2) := by decide +kernel
theorem dX0_fewestToShut_43 : decode cX0_fewestToShut 43 = .ok (.if_icmp .ge 48, 3) := by decide +kernel
theorem dX0_fewestToShut_46 : decode cX0_fewestToShut 46 = .ok (.iload 6, 2) := by decide +kernel
theorem dX0_fewestToShut_48 : decode cX0_fewestToShut 48 = .ok (.invokestatic 116, 3) := by decide +kernel
theorem dX0_fewestToShut_51 : decode cX0_fewestToShut 51 = .ok (.iload 5, 2) := by decide +kernel
theorem dX0_fewestToShut_53 : decode cX0_fewestToShut 53 = .ok (.invokestatic 116, 3) := by decide +kernel
theorem dX0_fewestToShut_56 : decode cX0_fewestToShut 56 = .ok (.if_icmp .ge 29, 3) := by decide +kernel
theorem dX0_fewestToShut_59 : decode cX0_fewestToShut 59 = .ok (.aload_n 0, 1) := by decide +kernel
theorem dX0_fewestToShut_60 : decode cX0_fewestToShut 60 = .ok (.iload_n 1, 1) := by decide +kernel
theorem dX0_fewestToShut_61 : decode cX0_fewestToShut 61 = .ok (.iconst 0, 1) := by decide +kernel
theorem dX0_fewestToShut_62 : decode cX0_fewestToShut 62 = .ok (.iload 6, 2) := by decide +kernel
theorem dX0_fewestToShut_64 : decode cX0_fewestToShut 64 = .ok (.invokevirtual 112, 3) := by decide +kernel
theorem dX0_fewestToShut_67 : decode cX0_fewestToShut 67 = .ok (.aload_n 0, 1) := by decide +kernel
theorem dX0_fewestToShut_68 : decode cX0_fewestToShut 68 = .ok (.iload_n 2, 1) := by decide +kernel
theorem dX0_fewestToShut_69 : decode cX0_fewestToShut 69 = .ok (.invokevirtual 109, 3) := by decide +kernel
theorem dX0_fewestToShut_72 : decode cX0_fewestToShut 72 = .ok (.iload_n 3, 1) := by decide +kernel
theorem dX0_fewestToShut_73 : decode cX0_fewestToShut 73 = .ok (.if_icmp .gt 8, 3) := by decide +kernel
theorem dX0_fewestToShut_76 : decode cX0_fewestToShut 76 = .ok (.iload 5, 2) := by decide +kernel
theorem dX0_fewestToShut_78 : decode cX0_fewestToShut 78 = .ok (.goto 5, 3) := by decide +kernel
theorem dX0_fewestToShut_81 : decode cX0_fewestToShut 81 = .ok (.iload 6, 2) := by decide +kernel
theorem dX0_fewestToShut_83 : decode cX0_fewestToShut 83 = .ok (.istore 5, 2) := by decide +kernel
theorem dX0_fewestToShut_85 : decode cX0_fewestToShut 85 = .ok (.iinc 6 1, 3) := by decide +kernel
theorem dX0_fewestToShut_88 : decode cX0_fewestToShut 88 = .ok (.goto (-49), 3) := by decide +kernel
theorem dX0_fewestToShut_91 : decode cX0_fewestToShut 91 = .ok (.iload 5, 2) := by decide +kernel
theorem dX0_fewestToShut_93 : decode cX0_fewestToShut 93 = .ok (.ireturn, 1) := by decide +kernel
theorem dX0_shellsToTake_0 : decode cX0_shellsToTake 0 = .ok (.aload_n 0, 1) := by decide +kernel
theorem dX0_shellsToTake_1 : decode cX0_shellsToTake 1 = .ok (.getfield 21, 3) := by decide +kernel
theorem dX0_shellsToTake_4 : decode cX0_shellsToTake 4 = .ok (.getfield 121, 3) := by decide +kernel
theorem dX0_shellsToTake_7 : decode cX0_shellsToTake 7 = .ok (.iload_n 1, 1) := by decide +kernel
theorem dX0_shellsToTake_8 : decode cX0_shellsToTake 8 = .ok (.iaload, 1) := by decide +kernel
theorem dX0_shellsToTake_9 : decode cX0_shellsToTake 9 = .ok (.iconst (-1), 1) := by decide +kernel
theorem dX0_shellsToTake_10 : decode cX0_shellsToTake 10 = .ok (.if_icmp .eq 28, 3) := by decide +kernel
theorem dX0_shellsToTake_13 : decode cX0_shellsToTake 13 = .ok (.aload_n 0, 1) := by decide +kernel
theorem dX0_shellsToTake_14 : decode cX0_shellsToTake 14 = .ok (.aload_n 0, 1) := by decide +kernel
theorem dX0_shellsToTake_15 : decode cX0_shellsToTake 15 = .ok (.getfield 18, 3) := by decide +kernel
theorem dX0_shellsToTake_18 : decode cX0_shellsToTake 18 = .ok (.aload_n 0, 1) := by decide +kernel
theorem dX0_shellsToTake_19 : decode cX0_shellsToTake 19 = .ok (.getfield 21, 3) := by decide +kernel
theorem dX0_shellsToTake_22 : decode cX0_shellsToTake 22 = .ok (.getfield 121, 3) := by decide +kernel
theorem dX0_shellsToTake_25 : decode cX0_shellsToTake 25 = .ok (.iload_n 1, 1) := by decide +kernel
theorem dX0_shellsToTake_26 : decode cX0_shellsToTake 26 = .ok (.iaload, 1) := by decide +kernel
theorem dX0_shellsToTake_27 : decode cX0_shellsToTake 27 = .ok (.iaload, 1) := by decide +kernel
theorem dX0_shellsToTake_28 : decode cX0_shellsToTake 28 = .ok (.iload_n 1, 1) := by decide +kernel
theorem dX0_shellsToTake_29 : decode cX0_shellsToTake 29 = .ok (.invokevirtual 106, 3) := by decide +kernel
theorem dX0_shellsToTake_32 : decode cX0_shellsToTake 32 = .ok (.iload_n 2, 1) := by decide +kernel
theorem dX0_shellsToTake_33 : decode cX0_shellsToTake 33 = .ok (.if_icmp .gt 5, 3) := by decide +kernel
theorem dX0_shellsToTake_36 : decode cX0_shellsToTake 36 = .ok (.iconst (-1), 1) := by decide +kernel
theorem dX0_shellsToTake_37 : decode cX0_shellsToTake 37 = .ok (.ireturn, 1) := by decide +kernel
theorem dX0_shellsToTake_38 : decode cX0_shellsToTake 38 = .ok (.iconst 0, 1) := by decide +kernel
theorem dX0_shellsToTake_39 : decode cX0_shellsToTake 39 = .ok (.istore_n 3, 1) := by decide +kernel
theorem dX0_shellsToTake_40 : decode cX0_shellsToTake 40 = .ok (.iconst 0, 1) := by decide +kernel
theorem dX0_shellsToTake_41 : decode cX0_shellsToTake 41 = .ok (.istore 4, 2) := by decide +kernel
theorem dX0_shellsToTake_43 : decode cX0_shellsToTake 43 = .ok (.iload 4, 2) := by decide +kernel
theorem dX0_shellsToTake_45 : decode cX0_shellsToTake 45 = .ok (.aload_n 0, 1) := by decide +kernel
theorem dX0_shellsToTake_46 : decode cX0_shellsToTake 46 = .ok (.getfield 21, 3) := by decide +kernel
theorem dX0_shellsToTake_49 : decode cX0_shellsToTake 49 = .ok (.getfield 124, 3) := by decide +kernel
theorem dX0_shellsToTake_52 : decode cX0_shellsToTake 52 = .ok (.if_icmp .ge 54, 3) := by decide +kernel
theorem dX0_shellsToTake_55 : decode cX0_shellsToTake 55 = .ok (.aload_n 0, 1) := by decide +kernel
theorem dX0_shellsToTake_56 : decode cX0_shellsToTake 56 = .ok (.getfield 29, 3) := by decide +kernel
theorem dX0_shellsToTake_59 : decode cX0_shellsToTake 59 = .ok (.getfield 127, 3) := by decide +kernel
theorem dX0_shellsToTake_62 : decode cX0_shellsToTake 62 = .ok (.iload 4, 2) := by decide +kernel
theorem dX0_shellsToTake_64 : decode cX0_shellsToTake 64 = .ok (.iaload, 1) := by decide +kernel
theorem dX0_shellsToTake_65 : decode cX0_shellsToTake 65 = .ok (.iload_n 1, 1) := by decide +kernel
theorem dX0_shellsToTake_66 : decode cX0_shellsToTake 66 = .ok (.if_icmp .ne 34, 3) := by decide +kernel
theorem dX0_shellsToTake_69 : decode cX0_shellsToTake 69 = .ok (.aload_n 0, 1) := by decide +kernel
theorem dX0_shellsToTake_70 : decode cX0_shellsToTake 70 = .ok (.aload_n 0, 1) := by decide +kernel
theorem dX0_shellsToTake_71 : decode cX0_shellsToTake 71 = .ok (.getfield 18, 3) := by decide +kernel
theorem dX0_shellsToTake_74 : decode cX0_shellsToTake 74 = .ok (.aload_n 0, 1) := by decide +kernel
theorem dX0_shellsToTake_75 : decode cX0_shellsToTake 75 = .ok (.getfield 21, 3) := by decide +kernel
theorem dX0_shellsToTake_78 : decode cX0_shellsToTake 78 = .ok (.getfield 130, 3) := by decide +kernel
theorem dX0_shellsToTake_81 : decode cX0_shellsToTake 81 = .ok (.iload 4, 2) := by decide +kernel
theorem dX0_shellsToTake_83 : decode cX0_shellsToTake 83 = .ok (.iaload, 1) := by decide +kernel
theorem dX0_shellsToTake_84 : decode cX0_shellsToTake 84 = .ok (.iaload, 1) := by decide +kernel
theorem dX0_shellsToTake_85 : decode cX0_shellsToTake 85 = .ok (.iload_n 1, 1) := by decide +kernel
theorem dX0_shellsToTake_86 : decode cX0_shellsToTake 86 = .ok (.invokevirtual 106, 3) := by decide +kernel
theorem dX0_shellsToTake_89 : decode cX0_shellsToTake 89 = .ok (.iload_n 2, 1) := by decide +kernel
theorem dX0_shellsToTake_90 : decode cX0_shellsToTake 90 = .ok (.if_icmp .gt 10, 3) := by decide +kernel
theorem dX0_shellsToTake_93 : decode cX0_shellsToTake 93 = .ok (.iload_n 3, 1) := by decide +kernel
theorem dX0_shellsToTake_94 : decode cX0_shellsToTake 94 = .ok (.iconst 1, 1) := by decide +kernel
theorem dX0_shellsToTake_95 : decode cX0_shellsToTake 95 = .ok (.iload 4, 2) := by decide +kernel
theorem dX0_shellsToTake_97 : decode cX0_shellsToTake 97 = .ok (.ishl, 1) := by decide +kernel
theorem dX0_shellsToTake_98 : decode cX0_shellsToTake 98 = .ok (.ior, 1) := by decide +kernel
theorem dX0_shellsToTake_99 : decode cX0_shellsToTake 99 = .ok (.istore_n 3, 1) := by decide +kernel
theorem dX0_shellsToTake_100 : decode cX0_shellsToTake 100 = .ok (.iinc 4 1, 3) := by decide +kernel
theorem dX0_shellsToTake_103 : decode cX0_shellsToTake 103 = .ok (.goto (-60), 3) := by decide +kernel
theorem dX0_shellsToTake_106 : decode cX0_shellsToTake 106 = .ok (.iload_n 3, 1) := by decide +kernel
theorem dX0_shellsToTake_107 : decode cX0_shellsToTake 107 = .ok (.ireturn, 1) := by decide +kernel
theorem dX1_init_0 : decode cX1_init 0 = .ok (.aload_n 0, 1) := by decide +kernel
theorem dX1_init_1 : decode cX1_init 1 = .ok (.invokespecial 3, 3) := by decide +kernel
theorem dX1_init_4 : decode cX1_init 4 = .ok (.aload_n 0, 1) := by decide +kernel
theorem dX1_init_5 : decode cX1_init 5 = .ok (.bipush 10, 2) := by decide +kernel
theorem dX1_init_7 : decode cX1_init 7 = .ok (.anewarray 9, 3) := by decide +kernel
theorem dX1_init_10 : decode cX1_init 10 = .ok (.putfield 11, 3) := by decide +kernel
theorem dX1_init_13 : decode cX1_init 13 = .ok (.iconst 0, 1) := by decide +kernel
theorem dX1_init_14 : decode cX1_init 14 = .ok (.istore_n 1, 1) := by decide +kernel
theorem dX1_init_15 : decode cX1_init 15 = .ok (.iload_n 1, 1) := by decide +kernel
theorem dX1_init_16 : decode cX1_init 16 = .ok (.bipush 10, 2) := by decide +kernel
theorem dX1_init_18 : decode cX1_init 18 = .ok (.if_icmp .ge 22, 3) := by decide +kernel
theorem dX1_init_21 : decode cX1_init 21 = .ok (.aload_n 0, 1) := by decide +kernel
theorem dX1_init_22 : decode cX1_init 22 = .ok (.getfield 11, 3) := by decide +kernel
theorem dX1_init_25 : decode cX1_init 25 = .ok (.iload_n 1, 1) := by decide +kernel
theorem dX1_init_26 : decode cX1_init 26 = .ok (.new 9, 3) := by decide +kernel
theorem dX1_init_29 : decode cX1_init 29 = .ok (.dup, 1) := by decide +kernel
theorem dX1_init_30 : decode cX1_init 30 = .ok (.invokespecial 17, 3) := by decide +kernel
theorem dX1_init_33 : decode cX1_init 33 = .ok (.aastore, 1) := by decide +kernel
theorem dX1_init_34 : decode cX1_init 34 = .ok (.iinc 1 1, 3) := by decide +kernel
theorem dX1_init_37 : decode cX1_init 37 = .ok (.goto (-22), 3) := by decide +kernel
theorem dX1_init_40 : decode cX1_init 40 = .ok (.return_, 1) := by decide +kernel
theorem dX1_forget_0 : decode cX1_forget 0 = .ok (.aload_n 0, 1) := by decide +kernel
theorem dX1_forget_1 : decode cX1_forget 1 = .ok (.iconst 0, 1) := by decide +kernel
theorem dX1_forget_2 : decode cX1_forget 2 = .ok (.putfield 18, 3) := by decide +kernel
theorem dX1_forget_5 : decode cX1_forget 5 = .ok (.return_, 1) := by decide +kernel
theorem dX1_keep_0 : decode cX1_keep 0 = .ok (.aload_n 0, 1) := by decide +kernel
theorem dX1_keep_1 : decode cX1_keep 1 = .ok (.getfield 11, 3) := by decide +kernel
theorem dX1_keep_4 : decode cX1_keep 4 = .ok (.aload_n 0, 1) := by decide +kernel
theorem dX1_keep_5 : decode cX1_keep 5 = .ok (.getfield 22, 3) := by decide +kernel
theorem dX1_keep_8 : decode cX1_keep 8 = .ok (.aaload, 1) := by decide +kernel
theorem dX1_keep_9 : decode cX1_keep 9 = .ok (.aload_n 1, 1) := by decide +kernel
theorem dX1_keep_10 : decode cX1_keep 10 = .ok (.invokevirtual 25, 3) := by decide +kernel
theorem dX1_keep_13 : decode cX1_keep 13 = .ok (.aload_n 0, 1) := by decide +kernel
theorem dX1_keep_14 : decode cX1_keep 14 = .ok (.aload_n 0, 1) := by decide +kernel
theorem dX1_keep_15 : decode cX1_keep 15 = .ok (.getfield 22, 3) := by decide +kernel
theorem dX1_keep_18 : decode cX1_keep 18 = .ok (.iconst 1, 1) := by decide +kernel
theorem dX1_keep_19 : decode cX1_keep 19 = .ok (.iadd, 1) := by decide +kernel
theorem dX1_keep_20 : decode cX1_keep 20 = .ok (.bipush 10, 2) := by decide +kernel
theorem dX1_keep_22 : decode cX1_keep 22 = .ok (.irem, 1) := by decide +kernel
theorem dX1_keep_23 : decode cX1_keep 23 = .ok (.putfield 22, 3) := by decide +kernel
theorem dX1_keep_26 : decode cX1_keep 26 = .ok (.aload_n 0, 1) := by decide +kernel
theorem dX1_keep_27 : decode cX1_keep 27 = .ok (.bipush 10, 2) := by decide +kernel
theorem dX1_keep_29 : decode cX1_keep 29 = .ok (.aload_n 0, 1) := by decide +kernel
theorem dX1_keep_30 : decode cX1_keep 30 = .ok (.getfield 18, 3) := by decide +kernel
theorem dX1_keep_33 : decode cX1_keep 33 = .ok (.iconst 1, 1) := by decide +kernel
theorem dX1_keep_34 : decode cX1_keep 34 = .ok (.iadd, 1) := by decide +kernel
theorem dX1_keep_35 : decode cX1_keep 35 = .ok (.invokestatic 29, 3) := by decide +kernel
theorem dX1_keep_38 : decode cX1_keep 38 = .ok (.putfield 18, 3) := by decide +kernel
theorem dX1_keep_41 : decode cX1_keep 41 = .ok (.return_, 1) := by decide +kernel
theorem dX1_takeBack_0 : decode cX1_takeBack 0 = .ok (.aload_n 0, 1) := by decide +kernel
theorem dX1_takeBack_1 : decode cX1_takeBack 1 = .ok (.aload_n 0, 1) := by decide +kernel
theorem dX1_takeBack_2 : decode cX1_takeBack 2 = .ok (.getfield 22, 3) := by decide +kernel
theorem dX1_takeBack_5 : decode cX1_takeBack 5 = .ok (.iload_n 2, 1) := by decide +kernel
theorem dX1_takeBack_6 : decode cX1_takeBack 6 = .ok (.isub, 1) := by decide +kernel
theorem dX1_takeBack_7 : decode cX1_takeBack 7 = .ok (.bipush 10, 2) := by decide +kernel
theorem dX1_takeBack_9 : decode cX1_takeBack 9 = .ok (.invokestatic 35, 3) := by decide +kernel
theorem dX1_takeBack_12 : decode cX1_takeBack 12 = .ok (.putfield 22, 3) := by decide +kernel
theorem dX1_takeBack_15 : decode cX1_takeBack 15 = .ok (.aload_n 1, 1) := by decide +kernel
theorem dX1_takeBack_16 : decode cX1_takeBack 16 = .ok (.aload_n 0, 1) := by decide +kernel
theorem dX1_takeBack_17 : decode cX1_takeBack 17 = .ok (.getfield 11, 3) := by decide +kernel
theorem dX1_takeBack_20 : decode cX1_takeBack 20 = .ok (.aload_n 0, 1) := by decide +kernel
theorem dX1_takeBack_21 : decode cX1_takeBack 21 = .ok (.getfield 22, 3) := by decide +kernel
theorem dX1_takeBack_24 : decode cX1_takeBack 24 = .ok (.aaload, 1) := by decide +kernel
theorem dX1_takeBack_25 : decode cX1_takeBack 25 = .ok (.invokevirtual 25, 3) := by decide +kernel
theorem dX1_takeBack_28 : decode cX1_takeBack 28 = .ok (.aload_n 0, 1) := by decide +kernel
theorem dX1_takeBack_29 : decode cX1_takeBack 29 = .ok (.dup, 1) := by decide +kernel
theorem dX1_takeBack_30 : decode cX1_takeBack 30 = .ok (.getfield 18, 3) := by decide +kernel
theorem dX1_takeBack_33 : decode cX1_takeBack 33 = .ok (.iload_n 2, 1) := by decide +kernel
theorem dX1_takeBack_34 : decode cX1_takeBack 34 = .ok (.isub, 1) := by decide +kernel
theorem dX1_takeBack_35 : decode cX1_takeBack 35 = .ok (.putfield 18, 3) := by decide +kernel
theorem dX1_takeBack_38 : decode cX1_takeBack 38 = .ok (.return_, 1) := by decide +kernel
theorem dX2_init_0 : decode cX2_init 0 = .ok (.aload_n 0, 1) := by decide +kernel
theorem dX2_init_1 : decode cX2_init 1 = .ok (.invokespecial 1, 3) := by decide +kernel
theorem dX2_init_4 : decode cX2_init 4 = .ok (.aload_n 0, 1) := by decide +kernel
theorem dX2_init_5 : decode cX2_init 5 = .ok (.new 7, 3) := by decide +kernel
theorem dX2_init_8 : decode cX2_init 8 = .ok (.dup, 1) := by decide +kernel
theorem dX2_init_9 : decode cX2_init 9 = .ok (.invokespecial 9, 3) := by decide +kernel
theorem dX2_init_12 : decode cX2_init 12 = .ok (.putfield 10, 3) := by decide +kernel
theorem dX2_init_15 : decode cX2_init 15 = .ok (.aload_n 0, 1) := by decide +kernel
theorem dX2_init_16 : decode cX2_init 16 = .ok (.new 16, 3) := by decide +kernel
theorem dX2_init_19 : decode cX2_init 19 = .ok (.dup, 1) := by decide +kernel
theorem dX2_init_20 : decode cX2_init 20 = .ok (.invokespecial 18, 3) := by decide +kernel
theorem dX2_init_23 : decode cX2_init 23 = .ok (.putfield 19, 3) := by decide +kernel
theorem dX2_init_26 : decode cX2_init 26 = .ok (.return_, 1) := by decide +kernel
theorem dX3_init_0 : decode cX3_init 0 = .ok (.aload_n 0, 1) := by decide +kernel
theorem dX3_init_1 : decode cX3_init 1 = .ok (.invokespecial 3, 3) := by decide +kernel
theorem dX3_init_4 : decode cX3_init 4 = .ok (.aload_n 0, 1) := by decide +kernel
theorem dX3_init_5 : decode cX3_init 5 = .ok (.sipush 900, 3) := by decide +kernel
theorem dX3_init_8 : decode cX3_init 8 = .ok (.newarray .int, 2) := by decide +kernel
theorem dX3_init_10 : decode cX3_init 10 = .ok (.putfield 9, 3) := by decide +kernel
theorem dX3_init_13 : decode cX3_init 13 = .ok (.aload_n 0, 1) := by decide +kernel
theorem dX3_init_14 : decode cX3_init 14 = .ok (.iconst 3, 1) := by decide +kernel
theorem dX3_init_15 : decode cX3_init 15 = .ok (.newarray .int, 2) := by decide +kernel
theorem dX3_init_17 : decode cX3_init 17 = .ok (.putfield 15, 3) := by decide +kernel
theorem dX3_init_20 : decode cX3_init 20 = .ok (.aload_n 0, 1) := by decide +kernel
theorem dX3_init_21 : decode cX3_init 21 = .ok (.iconst 3, 1) := by decide +kernel
theorem dX3_init_22 : decode cX3_init 22 = .ok (.newarray .int, 2) := by decide +kernel
theorem dX3_init_24 : decode cX3_init 24 = .ok (.putfield 18, 3) := by decide +kernel
theorem dX3_init_27 : decode cX3_init 27 = .ok (.return_, 1) := by decide +kernel
theorem dX3_clear_0 : decode cX3_clear 0 = .ok (.aload_n 0, 1) := by decide +kernel
theorem dX3_clear_1 : decode cX3_clear 1 = .ok (.iconst 0, 1) := by decide +kernel
theorem dX3_clear_2 : decode cX3_clear 2 = .ok (.putfield 21, 3) := by decide +kernel
theorem dX3_clear_5 : decode cX3_clear 5 = .ok (.aload_n 0, 1) := by decide +kernel
theorem dX3_clear_6 : decode cX3_clear 6 = .ok (.getfield 15, 3) := by decide +kernel
theorem dX3_clear_9 : decode cX3_clear 9 = .ok (.iconst 0, 1) := by decide +kernel
theorem dX3_clear_10 : decode cX3_clear 10 = .ok (.invokestatic 25, 3) := by decide +kernel
theorem dX3_clear_13 : decode cX3_clear 13 = .ok (.aload_n 0, 1) := by decide +kernel
theorem dX3_clear_14 : decode cX3_clear 14 = .ok (.getfield 18, 3) := by decide +kernel
theorem dX3_clear_17 : decode cX3_clear 17 = .ok (.iconst 0, 1) := by decide +kernel
theorem dX3_clear_18 : decode cX3_clear 18 = .ok (.invokestatic 25, 3) := by decide +kernel
theorem dX3_clear_21 : decode cX3_clear 21 = .ok (.return_, 1) := by decide +kernel
theorem dX3_copyFrom_0 : decode cX3_copyFrom 0 = .ok (.aload_n 0, 1) := by decide +kernel
theorem dX3_copyFrom_1 : decode cX3_copyFrom 1 = .ok (.aload_n 1, 1) := by decide +kernel
theorem dX3_copyFrom_2 : decode cX3_copyFrom 2 = .ok (.getfield 21, 3) := by decide +kernel
theorem dX3_copyFrom_5 : decode cX3_copyFrom 5 = .ok (.putfield 21, 3) := by decide +kernel
theorem dX3_copyFrom_8 : decode cX3_copyFrom 8 = .ok (.aload_n 1, 1) := by decide +kernel
theorem dX3_copyFrom_9 : decode cX3_copyFrom 9 = .ok (.getfield 9, 3) := by decide +kernel
theorem dX3_copyFrom_12 : decode cX3_copyFrom 12 = .ok (.iconst 0, 1) := by decide +kernel
theorem dX3_copyFrom_13 : decode cX3_copyFrom 13 = .ok (.aload_n 0, 1) := by decide +kernel
theorem dX3_copyFrom_14 : decode cX3_copyFrom 14 = .ok (.getfield 9, 3) := by decide +kernel
theorem dX3_copyFrom_17 : decode cX3_copyFrom 17 = .ok (.iconst 0, 1) := by decide +kernel
theorem dX3_copyFrom_18 : decode cX3_copyFrom 18 = .ok (.aload_n 0, 1) := by decide +kernel
theorem dX3_copyFrom_19 : decode cX3_copyFrom 19 = .ok (.getfield 21, 3) := by decide +kernel
theorem dX3_copyFrom_22 : decode cX3_copyFrom 22 = .ok (.invokestatic 31, 3) := by decide +kernel
theorem dX3_copyFrom_25 : decode cX3_copyFrom 25 = .ok (.aload_n 1, 1) := by decide +kernel
theorem dX3_copyFrom_26 : decode cX3_copyFrom 26 = .ok (.getfield 15, 3) := by decide +kernel
theorem dX3_copyFrom_29 : decode cX3_copyFrom 29 = .ok (.iconst 0, 1) := by decide +kernel
theorem dX3_copyFrom_30 : decode cX3_copyFrom 30 = .ok (.aload_n 0, 1) := by decide +kernel
theorem dX3_copyFrom_31 : decode cX3_copyFrom 31 = .ok (.getfield 15, 3) := by decide +kernel
theorem dX3_copyFrom_34 : decode cX3_copyFrom 34 = .ok (.iconst 0, 1) := by decide +kernel
theorem dX3_copyFrom_35 : decode cX3_copyFrom 35 = .ok (.iconst 3, 1) := by decide +kernel
theorem dX3_copyFrom_36 : decode cX3_copyFrom 36 = .ok (.invokestatic 31, 3) := by decide +kernel
theorem dX3_copyFrom_39 : decode cX3_copyFrom 39 = .ok (.aload_n 1, 1) := by decide +kernel
theorem dX3_copyFrom_40 : decode cX3_copyFrom 40 = .ok (.getfield 18, 3) := by decide +kernel
theorem dX3_copyFrom_43 : decode cX3_copyFrom 43 = .ok (.iconst 0, 1) := by decide +kernel
theorem dX3_copyFrom_44 : decode cX3_copyFrom 44 = .ok (.aload_n 0, 1) := by decide +kernel
theorem dX3_copyFrom_45 : decode cX3_copyFrom 45 = .ok (.getfield 18, 3) := by decide +kernel
theorem dX3_copyFrom_48 : decode cX3_copyFrom 48 = .ok (.iconst 0, 1) := by decide +kernel
theorem dX3_copyFrom_49 : decode cX3_copyFrom 49 = .ok (.iconst 3, 1) := by decide +kernel
theorem dX3_copyFrom_50 : decode cX3_copyFrom 50 = .ok (.invokestatic 31, 3) := by decide +kernel
theorem dX3_copyFrom_53 : decode cX3_copyFrom 53 = .ok (.return_, 1) := by decide +kernel
theorem dX3_isTold_0 : decode cX3_isTold 0 = .ok (.aload_n 0, 1) := by decide +kernel
theorem dX3_isTold_1 : decode cX3_isTold 1 = .ok (.getfield 18, 3) := by decide +kernel
theorem dX3_isTold_4 : decode cX3_isTold 4 = .ok (.iload_n 1, 1) := by decide +kernel
theorem dX3_isTold_5 : decode cX3_isTold 5 = .ok (.iaload, 1) := by decide +kernel
theorem dX3_isTold_6 : decode cX3_isTold 6 = .ok (.aload_n 0, 1) := by decide +kernel
theorem dX3_isTold_7 : decode cX3_isTold 7 = .ok (.getfield 15, 3) := by decide +kernel
theorem dX3_isTold_10 : decode cX3_isTold 10 = .ok (.iload_n 1, 1) := by decide +kernel
theorem dX3_isTold_11 : decode cX3_isTold 11 = .ok (.iaload, 1) := by decide +kernel
theorem dX3_isTold_12 : decode cX3_isTold 12 = .ok (.if_icmp .le 7, 3) := by decide +kernel
theorem dX3_isTold_15 : decode cX3_isTold 15 = .ok (.iconst 1, 1) := by decide +kernel
theorem dX3_isTold_16 : decode cX3_isTold 16 = .ok (.goto 4, 3) := by decide +kernel
theorem dX3_isTold_19 : decode cX3_isTold 19 = .ok (.iconst 0, 1) := by decide +kernel
theorem dX3_isTold_20 : decode cX3_isTold 20 = .ok (.ireturn, 1) := by decide +kernel
theorem dX3_begin_0 : decode cX3_begin 0 = .ok (.aload_n 0, 1) := by decide +kernel
theorem dX3_begin_1 : decode cX3_begin 1 = .ok (.getfield 15, 3) := by decide +kernel
theorem dX3_begin_4 : decode cX3_begin 4 = .ok (.iload_n 1, 1) := by decide +kernel
theorem dX3_begin_5 : decode cX3_begin 5 = .ok (.aload_n 0, 1) := by decide +kernel
theorem dX3_begin_6 : decode cX3_begin 6 = .ok (.getfield 21, 3) := by decide +kernel
theorem dX3_begin_9 : decode cX3_begin 9 = .ok (.iastore, 1) := by decide +kernel
theorem dX3_begin_10 : decode cX3_begin 10 = .ok (.aload_n 0, 1) := by decide +kernel
theorem dX3_begin_11 : decode cX3_begin 11 = .ok (.getfield 18, 3) := by decide +kernel
theorem dX3_begin_14 : decode cX3_begin 14 = .ok (.iload_n 1, 1) := by decide +kernel
theorem dX3_begin_15 : decode cX3_begin 15 = .ok (.aload_n 0, 1) := by decide +kernel
theorem dX3_begin_16 : decode cX3_begin 16 = .ok (.getfield 21, 3) := by decide +kernel
theorem dX3_begin_19 : decode cX3_begin 19 = .ok (.iastore, 1) := by decide +kernel
theorem dX3_begin_20 : decode cX3_begin 20 = .ok (.return_, 1) := by decide +kernel
theorem dX3_add_0 : decode cX3_add 0 = .ok (.aload_n 0, 1) := by decide +kernel
theorem dX3_add_1 : decode cX3_add 1 = .ok (.getfield 21, 3) := by decide +kernel
theorem dX3_add_4 : decode cX3_add 4 = .ok (.aload_n 0, 1) := by decide +kernel
theorem dX3_add_5 : decode cX3_add 5 = .ok (.getfield 9, 3) := by decide +kernel
theorem dX3_add_8 : decode cX3_add 8 = .ok (.arraylength, 1) := by decide +kernel
theorem dX3_add_9 : decode cX3_add 9 = .ok (.if_icmp .ge 33, 3) := by decide +kernel
theorem dX3_add_12 : decode cX3_add 12 = .ok (.aload_n 0, 1) := by decide +kernel
theorem dX3_add_13 : decode cX3_add 13 = .ok (.getfield 9, 3) := by decide +kernel
theorem dX3_add_16 : decode cX3_add 16 = .ok (.aload_n 0, 1) := by decide +kernel
theorem dX3_add_17 : decode cX3_add 17 = .ok (.getfield 21, 3) := by decide +kernel
theorem dX3_add_20 : decode cX3_add 20 = .ok (.iload_n 2, 1) := by decide +kernel
theorem dX3_add_21 : decode cX3_add 21 = .ok (.iastore, 1) := by decide +kernel
theorem dX3_add_22 : decode cX3_add 22 = .ok (.aload_n 0, 1) := by decide +kernel
theorem dX3_add_23 : decode cX3_add 23 = .ok (.dup, 1) := by decide +kernel
theorem dX3_add_24 : decode cX3_add 24 = .ok (.getfield 21, 3) := by decide +kernel
theorem dX3_add_27 : decode cX3_add 27 = .ok (.iconst 1, 1) := by decide +kernel
theorem dX3_add_28 : decode cX3_add 28 = .ok (.iadd, 1) := by decide +kernel
theorem dX3_add_29 : decode cX3_add 29 = .ok (.putfield 21, 3) := by decide +kernel
theorem dX3_add_32 : decode cX3_add 32 = .ok (.aload_n 0, 1) := by decide +kernel
theorem dX3_add_33 : decode cX3_add 33 = .ok (.getfield 18, 3) := by decide +kernel
theorem dX3_add_36 : decode cX3_add 36 = .ok (.iload_n 1, 1) := by decide +kernel
theorem dX3_add_37 : decode cX3_add 37 = .ok (.aload_n 0, 1) := by decide +kernel
theorem dX3_add_38 : decode cX3_add 38 = .ok (.getfield 21, 3) := by decide +kernel
theorem dX3_add_41 : decode cX3_add 41 = .ok (.iastore, 1) := by decide +kernel
theorem dX3_add_42 : decode cX3_add 42 = .ok (.return_, 1) := by decide +kernel
theorem dX3_valueOf_0 : decode cX3_valueOf 0 = .ok (.iconst (-1), 1) := by decide +kernel
theorem dX3_valueOf_1 : decode cX3_valueOf 1 = .ok (.istore 4, 2) := by decide +kernel
theorem dX3_valueOf_3 : decode cX3_valueOf 3 = .ok (.aload_n 3, 1) := by decide +kernel
theorem dX3_valueOf_4 : decode cX3_valueOf 4 = .ok (.iconst 0, 1) := by decide +kernel
theorem dX3_valueOf_5 : decode cX3_valueOf 5 = .ok (.iconst 0, 1) := by decide +kernel
theorem dX3_valueOf_6 : decode cX3_valueOf 6 = .ok (.iastore, 1) := by decide +kernel
theorem dX3_valueOf_7 : decode cX3_valueOf 7 = .ok (.aload_n 0, 1) := by decide +kernel
theorem dX3_valueOf_8 : decode cX3_valueOf 8 = .ok (.getfield 15, 3) := by decide +kernel
theorem dX3_valueOf_11 : decode cX3_valueOf 11 = .ok (.iload_n 1, 1) := by decide +kernel
theorem dX3_valueOf_12 : decode cX3_valueOf 12 = .ok (.iaload, 1) := by decide +kernel
theorem dX3_valueOf_13 : decode cX3_valueOf 13 = .ok (.istore 5, 2) := by decide +kernel
theorem dX3_valueOf_15 : decode cX3_valueOf 15 = .ok (.iload 5, 2) := by decide +kernel
theorem dX3_valueOf_17 : decode cX3_valueOf 17 = .ok (.aload_n 0, 1) := by decide +kernel
theorem dX3_valueOf_18 : decode cX3_valueOf 18 = .ok (.getfield 18, 3) := by decide +kernel
theorem dX3_valueOf_21 : decode cX3_valueOf 21 = .ok (.iload_n 1, 1) := by decide +kernel
theorem dX3_valueOf_22 : decode cX3_valueOf 22 = .ok (.iaload, 1) := by decide +kernel
theorem dX3_valueOf_23 : decode cX3_valueOf 23 = .ok (.if_icmp .ge 126, 3) := by decide +kernel
theorem dX3_valueOf_26 : decode cX3_valueOf 26 = .ok (.aload_n 0, 1) := by decide +kernel
theorem dX3_valueOf_27 : decode cX3_valueOf 27 = .ok (.getfield 9, 3) := by decide +kernel
theorem dX3_valueOf_30 : decode cX3_valueOf 30 = .ok (.iload 5, 2) := by decide +kernel
theorem dX3_valueOf_32 : decode cX3_valueOf 32 = .ok (.iaload, 1) := by decide +kernel
theorem dX3_valueOf_33 : decode cX3_valueOf 33 = .ok (.istore 6, 2) := by decide +kernel
theorem dX3_valueOf_35 : decode cX3_valueOf 35 = .ok (.iload 6, 2) := by decide +kernel
theorem dX3_valueOf_37 : decode cX3_valueOf 37 = .ok (.sipush 1010, 3) := by decide +kernel
theorem dX3_valueOf_40 : decode cX3_valueOf 40 = .ok (.if_icmp .ge 47, 3) := by decide +kernel
theorem dX3_valueOf_43 : decode cX3_valueOf 43 = .ok (.iinc 4 1, 3) := by decide +kernel
theorem dX3_valueOf_46 : decode cX3_valueOf 46 = .ok (.iload 4, 2) := by decide +kernel
theorem dX3_valueOf_48 : decode cX3_valueOf 48 = .ok (.aload_n 3, 1) := by decide +kernel
theorem dX3_valueOf_49 : decode cX3_valueOf 49 = .ok (.arraylength, 1) := by decide +kernel
theorem dX3_valueOf_50 : decode cX3_valueOf 50 = .ok (.if_icmp .lt 5, 3) := by decide +kernel
theorem dX3_valueOf_53 : decode cX3_valueOf 53 = .ok (.iconst 0, 1) := by decide +kernel
theorem dX3_valueOf_54 : decode cX3_valueOf 54 = .ok (.ireturn, 1) := by decide +kernel
theorem dX3_valueOf_55 : decode cX3_valueOf 55 = .ok (.aload_n 3, 1) := by decide +kernel
theorem dX3_valueOf_56 : decode cX3_valueOf 56 = .ok (.iload 4, 2) := by decide +kernel
theorem dX3_valueOf_58 : decode cX3_valueOf 58 = .ok (.iload 6, 2) := by decide +kernel
theorem dX3_valueOf_60 : decode cX3_valueOf 60 = .ok (.sipush 1000, 3) := by decide +kernel
theorem dX3_valueOf_63 : decode cX3_valueOf 63 = .ok (.if_icmp .ge 8, 3) := by decide +kernel
theorem dX3_valueOf_66 : decode cX3_valueOf 66 = .ok (.iload 6, 2) := by decide +kernel
theorem dX3_valueOf_68 : decode cX3_valueOf 68 = .ok (.goto 15, 3) := by decide +kernel
theorem dX3_valueOf_71 : decode cX3_valueOf 71 = .ok (.aload_n 2, 1) := by decide +kernel
theorem dX3_valueOf_72 : decode cX3_valueOf 72 = .ok (.iload 6, 2) := by decide +kernel
theorem dX3_valueOf_74 : decode cX3_valueOf 74 = .ok (.sipush 1000, 3) := by decide +kernel
theorem dX3_valueOf_77 : decode cX3_valueOf 77 = .ok (.isub, 1) := by decide +kernel
theorem dX3_valueOf_78 : decode cX3_valueOf 78 = .ok (.iconst 4, 1) := by decide +kernel
theorem dX3_valueOf_79 : decode cX3_valueOf 79 = .ok (.invokestatic 37, 3) := by decide +kernel
theorem dX3_valueOf_82 : decode cX3_valueOf 82 = .ok (.iaload, 1) := by decide +kernel
theorem dX3_valueOf_83 : decode cX3_valueOf 83 = .ok (.iastore, 1) := by decide +kernel
theorem dX3_valueOf_84 : decode cX3_valueOf 84 = .ok (.goto 59, 3) := by decide +kernel
theorem dX3_valueOf_87 : decode cX3_valueOf 87 = .ok (.iload 6, 2) := by decide +kernel
theorem dX3_valueOf_89 : decode cX3_valueOf 89 = .ok (.sipush 1010, 3) := by decide +kernel
theorem dX3_valueOf_92 : decode cX3_valueOf 92 = .ok (.if_icmp .ne 21, 3) := by decide +kernel
theorem dX3_valueOf_95 : decode cX3_valueOf 95 = .ok (.iload 4, 2) := by decide +kernel
theorem dX3_valueOf_97 : decode cX3_valueOf 97 = .ok (.ifCond .lt 16, 3) := by decide +kernel
theorem dX3_valueOf_100 : decode cX3_valueOf 100 = .ok (.aload_n 3, 1) := by decide +kernel
theorem dX3_valueOf_101 : decode cX3_valueOf 101 = .ok (.iload 4, 2) := by decide +kernel
theorem dX3_valueOf_103 : decode cX3_valueOf 103 = .ok (.iconst 1, 1) := by decide +kernel
theorem dX3_valueOf_104 : decode cX3_valueOf 104 = .ok (.aload_n 3, 1) := by decide +kernel
theorem dX3_valueOf_105 : decode cX3_valueOf 105 = .ok (.iload 4, 2) := by decide +kernel
theorem dX3_valueOf_107 : decode cX3_valueOf 107 = .ok (.iaload, 1) := by decide +kernel
theorem dX3_valueOf_108 : decode cX3_valueOf 108 = .ok (.isub, 1) := by decide +kernel
theorem dX3_valueOf_109 : decode cX3_valueOf 109 = .ok (.iastore, 1) := by decide +kernel
theorem dX3_valueOf_110 : decode cX3_valueOf 110 = .ok (.goto 33, 3) := by decide +kernel
theorem dX3_valueOf_113 : decode cX3_valueOf 113 = .ok (.iload 4, 2) := by decide +kernel
theorem dX3_valueOf_115 : decode cX3_valueOf 115 = .ok (.iconst 1, 1) := by decide +kernel
theorem dX3_valueOf_116 : decode cX3_valueOf 116 = .ok (.if_icmp .lt 27, 3) := by decide +kernel
theorem dX3_valueOf_119 : decode cX3_valueOf 119 = .ok (.iinc 4 (-1), 3) := by decide +kernel
theorem dX3_valueOf_122 : decode cX3_valueOf 122 = .ok (.aload_n 3, 1) := by decide +kernel
theorem dX3_valueOf_123 : decode cX3_valueOf 123 = .ok (.iload 4, 2) := by decide +kernel
theorem dX3_valueOf_125 : decode cX3_valueOf 125 = .ok (.iload 6, 2) := by decide +kernel
theorem dX3_valueOf_127 : decode cX3_valueOf 127 = .ok (.aload_n 3, 1) := by decide +kernel
theorem dX3_valueOf_128 : decode cX3_valueOf 128 = .ok (.iload 4, 2) := by decide +kernel
theorem dX3_valueOf_130 : decode cX3_valueOf 130 = .ok (.iaload, 1) := by decide +kernel
theorem dX3_valueOf_131 : decode cX3_valueOf 131 = .ok (.i2l, 1) := by decide +kernel
theorem dX3_valueOf_132 : decode cX3_valueOf 132 = .ok (.aload_n 3, 1) := by decide +kernel
theorem dX3_valueOf_133 : decode cX3_valueOf 133 = .ok (.iload 4, 2) := by decide +kernel
theorem dX3_valueOf_135 : decode cX3_valueOf 135 = .ok (.iconst 1, 1) := by decide +kernel
theorem dX3_valueOf_136 : decode cX3_valueOf 136 = .ok (.iadd, 1) := by decide +kernel
theorem dX3_valueOf_137 : decode cX3_valueOf 137 = .ok (.iaload, 1) := by decide +kernel
theorem dX3_valueOf_138 : decode cX3_valueOf 138 = .ok (.i2l, 1) := by decide +kernel
theorem dX3_valueOf_139 : decode cX3_valueOf 139 = .ok (.invokestatic 43, 3) := by decide +kernel
theorem dX3_valueOf_142 : decode cX3_valueOf 142 = .ok (.iastore, 1) := by decide +kernel
theorem dX3_valueOf_143 : decode cX3_valueOf 143 = .ok (.iinc 5 1, 3) := by decide +kernel
theorem dX3_valueOf_146 : decode cX3_valueOf 146 = .ok (.goto (-131), 3) := by decide +kernel
theorem dX3_valueOf_149 : decode cX3_valueOf 149 = .ok (.aload_n 3, 1) := by decide +kernel
theorem dX3_valueOf_150 : decode cX3_valueOf 150 = .ok (.iconst 0, 1) := by decide +kernel
theorem dX3_valueOf_151 : decode cX3_valueOf 151 = .ok (.iaload, 1) := by decide +kernel
theorem dX3_valueOf_152 : decode cX3_valueOf 152 = .ok (.ireturn, 1) := by decide +kernel
theorem dX3_joined_0 : decode cX3_joined 0 = .ok (.iload_n 0, 1) := by decide +kernel
theorem dX3_joined_1 : decode cX3_joined 1 = .ok (.tableswitch 144 1011 1017 #[43, 60, 77, 94, 106, 118, 130], 43) := by decide +kernel
theorem dX3_joined_44 : decode cX3_joined 44 = .ok (.ldc2_w 47, 3) := by decide +kernel
theorem dX3_joined_47 : decode cX3_joined 47 = .ok (.ldc2_w 49, 3) := by decide +kernel
theorem dX3_joined_50 : decode cX3_joined 50 = .ok (.lload_n 1, 1) := by decide +kernel
theorem dX3_joined_51 : decode cX3_joined 51 = .ok (.lload_n 3, 1) := by decide +kernel
theorem dX3_joined_52 : decode cX3_joined 52 = .ok (.ladd, 1) := by decide +kernel
theorem dX3_joined_53 : decode cX3_joined 53 = .ok (.invokestatic 51, 3) := by decide +kernel
theorem dX3_joined_56 : decode cX3_joined 56 = .ok (.invokestatic 54, 3) := by decide +kernel
theorem dX3_joined_59 : decode cX3_joined 59 = .ok (.l2i, 1) := by decide +kernel
theorem dX3_joined_60 : decode cX3_joined 60 = .ok (.ireturn, 1) := by decide +kernel
theorem dX3_joined_61 : decode cX3_joined 61 = .ok (.ldc2_w 47, 3) := by decide +kernel
theorem dX3_joined_64 : decode cX3_joined 64 = .ok (.ldc2_w 49, 3) := by decide +kernel
theorem dX3_joined_67 : decode cX3_joined 67 = .ok (.lload_n 1, 1) := by decide +kernel
theorem dX3_joined_68 : decode cX3_joined 68 = .ok (.lload_n 3, 1) := by decide +kernel
theorem dX3_joined_69 : decode cX3_joined 69 = .ok (.lsub, 1) := by decide +kernel
theorem dX3_joined_70 : decode cX3_joined 70 = .ok (.invokestatic 51, 3) := by decide +kernel
theorem dX3_joined_73 : decode cX3_joined 73 = .ok (.invokestatic 54, 3) := by decide +kernel
theorem dX3_joined_76 : decode cX3_joined 76 = .ok (.l2i, 1) := by decide +kernel
theorem dX3_joined_77 : decode cX3_joined 77 = .ok (.ireturn, 1) := by decide +kernel
theorem dX3_joined_78 : decode cX3_joined 78 = .ok (.ldc2_w 47, 3) := by decide +kernel
theorem dX3_joined_81 : decode cX3_joined 81 = .ok (.ldc2_w 49, 3) := by decide +kernel
theorem dX3_joined_84 : decode cX3_joined 84 = .ok (.lload_n 1, 1) := by decide +kernel
theorem dX3_joined_85 : decode cX3_joined 85 = .ok (.lload_n 3, 1) := by decide +kernel
theorem dX3_joined_86 : decode cX3_joined 86 = .ok (.lmul, 1) := by decide +kernel
theorem dX3_joined_87 : decode cX3_joined 87 = .ok (.invokestatic 51, 3) := by decide +kernel
theorem dX3_joined_90 : decode cX3_joined 90 = .ok (.invokestatic 54, 3) := by decide +kernel
theorem dX3_joined_93 : decode cX3_joined 93 = .ok (.l2i, 1) := by decide +kernel
theorem dX3_joined_94 : decode cX3_joined 94 = .ok (.ireturn, 1) := by decide +kernel
theorem dX3_joined_95 : decode cX3_joined 95 = .ok (.lload_n 1, 1) := by decide +kernel
theorem dX3_joined_96 : decode cX3_joined 96 = .ok (.lload_n 3, 1) := by decide +kernel
theorem dX3_joined_97 : decode cX3_joined 97 = .ok (.lcmp, 1) := by decide +kernel
theorem dX3_joined_98 : decode cX3_joined 98 = .ok (.ifCond .ne 7, 3) := by decide +kernel
theorem dX3_joined_101 : decode cX3_joined 101 = .ok (.iconst 1, 1) := by decide +kernel
theorem dX3_joined_102 : decode cX3_joined 102 = .ok (.goto 4, 3) := by decide +kernel
theorem dX3_joined_105 : decode cX3_joined 105 = .ok (.iconst 0, 1) := by decide +kernel
theorem dX3_joined_106 : decode cX3_joined 106 = .ok (.ireturn, 1) := by decide +kernel
theorem dX3_joined_107 : decode cX3_joined 107 = .ok (.lload_n 1, 1) := by decide +kernel
theorem dX3_joined_108 : decode cX3_joined 108 = .ok (.lload_n 3, 1) := by decide +kernel
theorem dX3_joined_109 : decode cX3_joined 109 = .ok (.lcmp, 1) := by decide +kernel
theorem dX3_joined_110 : decode cX3_joined 110 = .ok (.ifCond .ge 7, 3) := by decide +kernel
theorem dX3_joined_113 : decode cX3_joined 113 = .ok (.iconst 1, 1) := by decide +kernel
theorem dX3_joined_114 : decode cX3_joined 114 = .ok (.goto 4, 3) := by decide +kernel
theorem dX3_joined_117 : decode cX3_joined 117 = .ok (.iconst 0, 1) := by decide +kernel
theorem dX3_joined_118 : decode cX3_joined 118 = .ok (.ireturn, 1) := by decide +kernel
theorem dX3_joined_119 : decode cX3_joined 119 = .ok (.lload_n 1, 1) := by decide +kernel
theorem dX3_joined_120 : decode cX3_joined 120 = .ok (.lload_n 3, 1) := by decide +kernel
theorem dX3_joined_121 : decode cX3_joined 121 = .ok (.lcmp, 1) := by decide +kernel
theorem dX3_joined_122 : decode cX3_joined 122 = .ok (.ifCond .le 7, 3) := by decide +kernel
theorem dX3_joined_125 : decode cX3_joined 125 = .ok (.iconst 1, 1) := by decide +kernel
theorem dX3_joined_126 : decode cX3_joined 126 = .ok (.goto 4, 3) := by decide +kernel
theorem dX3_joined_129 : decode cX3_joined 129 = .ok (.iconst 0, 1) := by decide +kernel
theorem dX3_joined_130 : decode cX3_joined 130 = .ok (.ireturn, 1) := by decide +kernel
theorem dX3_joined_131 : decode cX3_joined 131 = .ok (.lload_n 1, 1) := by decide +kernel
theorem dX3_joined_132 : decode cX3_joined 132 = .ok (.lload_n 3, 1) := by decide +kernel
theorem dX3_joined_133 : decode cX3_joined 133 = .ok (.lmul, 1) := by decide +kernel
theorem dX3_joined_134 : decode cX3_joined 134 = .ok (.lconst 0, 1) := by decide +kernel
theorem dX3_joined_135 : decode cX3_joined 135 = .ok (.lcmp, 1) := by decide +kernel
theorem dX3_joined_136 : decode cX3_joined 136 = .ok (.ifCond .ne 7, 3) := by decide +kernel
theorem dX3_joined_139 : decode cX3_joined 139 = .ok (.iconst 0, 1) := by decide +kernel
theorem dX3_joined_140 : decode cX3_joined 140 = .ok (.goto 4, 3) := by decide +kernel
theorem dX3_joined_143 : decode cX3_joined 143 = .ok (.iconst 1, 1) := by decide +kernel
theorem dX3_joined_144 : decode cX3_joined 144 = .ok (.ireturn, 1) := by decide +kernel
theorem dX3_joined_145 : decode cX3_joined 145 = .ok (.lload_n 1, 1) := by decide +kernel
theorem dX3_joined_146 : decode cX3_joined 146 = .ok (.lload_n 3, 1) := by decide +kernel
theorem dX3_joined_147 : decode cX3_joined 147 = .ok (.ladd, 1) := by decide +kernel
theorem dX3_joined_148 : decode cX3_joined 148 = .ok (.lconst 0, 1) := by decide +kernel
theorem dX3_joined_149 : decode cX3_joined 149 = .ok (.lcmp, 1) := by decide +kernel
theorem dX3_joined_150 : decode cX3_joined 150 = .ok (.ifCond .ne 7, 3) := by decide +kernel
theorem dX3_joined_153 : decode cX3_joined 153 = .ok (.iconst 0, 1) := by decide +kernel
theorem dX3_joined_154 : decode cX3_joined 154 = .ok (.goto 4, 3) := by decide +kernel
theorem dX3_joined_157 : decode cX3_joined 157 = .ok (.iconst 1, 1) := by decide +kernel
theorem dX3_joined_158 : decode cX3_joined 158 = .ok (.ireturn, 1) := by decide +kernel
theorem dX4_init_0 : decode cX4_init 0 = .ok (.aload_n 0, 1) := by decide +kernel
theorem dX4_init_1 : decode cX4_init 1 = .ok (.invokespecial 3, 3) := by decide +kernel
theorem dX4_init_4 : decode cX4_init 4 = .ok (.aload_n 0, 1) := by decide +kernel
theorem dX4_init_5 : decode cX4_init 5 = .ok (.bipush 64, 2) := by decide +kernel
theorem dX4_init_7 : decode cX4_init 7 = .ok (.newarray .int, 2) := by decide +kernel
theorem dX4_init_9 : decode cX4_init 9 = .ok (.putfield 9, 3) := by decide +kernel
theorem dX4_init_12 : decode cX4_init 12 = .ok (.aload_n 0, 1) := by decide +kernel
theorem dX4_init_13 : decode cX4_init 13 = .ok (.bipush 8, 2) := by decide +kernel
theorem dX4_init_15 : decode cX4_init 15 = .ok (.newarray .int, 2) := by decide +kernel
theorem dX4_init_17 : decode cX4_init 17 = .ok (.putfield 15, 3) := by decide +kernel
theorem dX4_init_20 : decode cX4_init 20 = .ok (.aload_n 0, 1) := by decide +kernel
theorem dX4_init_21 : decode cX4_init 21 = .ok (.bipush 8, 2) := by decide +kernel
theorem dX4_init_23 : decode cX4_init 23 = .ok (.newarray .int, 2) := by decide +kernel
theorem dX4_init_25 : decode cX4_init 25 = .ok (.putfield 18, 3) := by decide +kernel
theorem dX4_init_28 : decode cX4_init 28 = .ok (.return_, 1) := by decide +kernel
theorem dX4_setCost_0 : decode cX4_setCost 0 = .ok (.aload_n 0, 1) := by decide +kernel
theorem dX4_setCost_1 : decode cX4_setCost 1 = .ok (.getfield 9, 3) := by decide +kernel
theorem dX4_setCost_4 : decode cX4_setCost 4 = .ok (.iload_n 1, 1) := by decide +kernel
theorem dX4_setCost_5 : decode cX4_setCost 5 = .ok (.bipush 8, 2) := by decide +kernel
theorem dX4_setCost_7 : decode cX4_setCost 7 = .ok (.imul, 1) := by decide +kernel
theorem dX4_setCost_8 : decode cX4_setCost 8 = .ok (.iload_n 2, 1) := by decide +kernel
theorem dX4_setCost_9 : decode cX4_setCost 9 = .ok (.iadd, 1) := by decide +kernel
theorem dX4_setCost_10 : decode cX4_setCost 10 = .ok (.iload_n 3, 1) := by decide +kernel
theorem dX4_setCost_11 : decode cX4_setCost 11 = .ok (.iastore, 1) := by decide +kernel
theorem dX4_setCost_12 : decode cX4_setCost 12 = .ok (.return_, 1) := by decide +kernel
theorem dX4_solve_0 : decode cX4_solve 0 = .ok (.aload_n 0, 1) := by decide +kernel
theorem dX4_solve_1 : decode cX4_solve 1 = .ok (.iload_n 1, 1) := by decide +kernel
theorem dX4_solve_2 : decode cX4_solve 2 = .ok (.putfield 21, 3) := by decide +kernel
theorem dX4_solve_5 : decode cX4_solve 5 = .ok (.aload_n 0, 1) := by decide +kernel
theorem dX4_solve_6 : decode cX4_solve 6 = .ok (.ldc 25, 2) := by decide +kernel
theorem dX4_solve_8 : decode cX4_solve 8 = .ok (.putfield 26, 3) := by decide +kernel
theorem dX4_solve_11 : decode cX4_solve 11 = .ok (.aload_n 0, 1) := by decide +kernel
theorem dX4_solve_12 : decode cX4_solve 12 = .ok (.iconst 0, 1) := by decide +kernel
theorem dX4_solve_13 : decode cX4_solve 13 = .ok (.iconst 1, 1) := by decide +kernel
theorem dX4_solve_14 : decode cX4_solve 14 = .ok (.iload_n 1, 1) := by decide +kernel
theorem dX4_solve_15 : decode cX4_solve 15 = .ok (.ishl, 1) := by decide +kernel
theorem dX4_solve_16 : decode cX4_solve 16 = .ok (.iconst 1, 1) := by decide +kernel
theorem dX4_solve_17 : decode cX4_solve 17 = .ok (.isub, 1) := by decide +kernel
theorem dX4_solve_18 : decode cX4_solve 18 = .ok (.iconst 0, 1) := by decide +kernel
theorem dX4_solve_19 : decode cX4_solve 19 = .ok (.iload_n 1, 1) := by decide +kernel
theorem dX4_solve_20 : decode cX4_solve 20 = .ok (.iconst 2, 1) := by decide +kernel
theorem dX4_solve_21 : decode cX4_solve 21 = .ok (.irem, 1) := by decide +kernel
theorem dX4_solve_22 : decode cX4_solve 22 = .ok (.iconst 1, 1) := by decide +kernel
theorem dX4_solve_23 : decode cX4_solve 23 = .ok (.if_icmp .ne 7, 3) := by decide +kernel
theorem dX4_solve_26 : decode cX4_solve 26 = .ok (.iconst 1, 1) := by decide +kernel
theorem dX4_solve_27 : decode cX4_solve 27 = .ok (.goto 4, 3) := by decide +kernel
theorem dX4_solve_30 : decode cX4_solve 30 = .ok (.iconst 0, 1) := by decide +kernel
theorem dX4_solve_31 : decode cX4_solve 31 = .ok (.invokevirtual 29, 3) := by decide +kernel
theorem dX4_solve_34 : decode cX4_solve 34 = .ok (.return_, 1) := by decide +kernel
theorem dX4_pairFrom_0 : decode cX4_pairFrom 0 = .ok (.iload_n 3, 1) := by decide +kernel
theorem dX4_pairFrom_1 : decode cX4_pairFrom 1 = .ok (.aload_n 0, 1) := by decide +kernel
theorem dX4_pairFrom_2 : decode cX4_pairFrom 2 = .ok (.getfield 26, 3) := by decide +kernel
theorem dX4_pairFrom_5 : decode cX4_pairFrom 5 = .ok (.if_icmp .lt 4, 3) := by decide +kernel
theorem dX4_pairFrom_8 : decode cX4_pairFrom 8 = .ok (.return_, 1) := by decide +kernel
theorem dX4_pairFrom_9 : decode cX4_pairFrom 9 = .ok (.iload_n 1, 1) := by decide +kernel
theorem dX4_pairFrom_10 : decode cX4_pairFrom 10 = .ok (.aload_n 0, 1) := by decide +kernel
theorem dX4_pairFrom_11 : decode cX4_pairFrom 11 = .ok (.getfield 21, 3) := by decide +kernel
theorem dX4_pairFrom_14 : decode cX4_pairFrom 14 = .ok (.if_icmp .lt 24, 3) := by decide +kernel
theorem dX4_pairFrom_17 : decode cX4_pairFrom 17 = .ok (.aload_n 0, 1) := by decide +kernel
theorem dX4_pairFrom_18 : decode cX4_pairFrom 18 = .ok (.iload_n 3, 1) := by decide +kernel
theorem dX4_pairFrom_19 : decode cX4_pairFrom 19 = .ok (.putfield 26, 3) := by decide +kernel
theorem dX4_pairFrom_22 : decode cX4_pairFrom 22 = .ok (.aload_n 0, 1) := by decide +kernel
theorem dX4_pairFrom_23 : decode cX4_pairFrom 23 = .ok (.getfield 15, 3) := by decide +kernel
theorem dX4_pairFrom_26 : decode cX4_pairFrom 26 = .ok (.iconst 0, 1) := by decide +kernel
theorem dX4_pairFrom_27 : decode cX4_pairFrom 27 = .ok (.aload_n 0, 1) := by decide +kernel
theorem dX4_pairFrom_28 : decode cX4_pairFrom 28 = .ok (.getfield 18, 3) := by decide +kernel
theorem dX4_pairFrom_31 : decode cX4_pairFrom 31 = .ok (.iconst 0, 1) := by decide +kernel
theorem dX4_pairFrom_32 : decode cX4_pairFrom 32 = .ok (.bipush 8, 2) := by decide +kernel
theorem dX4_pairFrom_34 : decode cX4_pairFrom 34 = .ok (.invokestatic 33, 3) := by decide +kernel
theorem dX4_pairFrom_37 : decode cX4_pairFrom 37 = .ok (.return_, 1) := by decide +kernel
theorem dX4_pairFrom_38 : decode cX4_pairFrom 38 = .ok (.iload_n 2, 1) := by decide +kernel
theorem dX4_pairFrom_39 : decode cX4_pairFrom 39 = .ok (.iload_n 1, 1) := by decide +kernel
theorem dX4_pairFrom_40 : decode cX4_pairFrom 40 = .ok (.ishr, 1) := by decide +kernel
theorem dX4_pairFrom_41 : decode cX4_pairFrom 41 = .ok (.iconst 1, 1) := by decide +kernel
theorem dX4_pairFrom_42 : decode cX4_pairFrom 42 = .ok (.iand, 1) := by decide +kernel
theorem dX4_pairFrom_43 : decode cX4_pairFrom 43 = .ok (.ifCond .ne 15, 3) := by decide +kernel
theorem dX4_pairFrom_46 : decode cX4_pairFrom 46 = .ok (.aload_n 0, 1) := by decide +kernel
theorem dX4_pairFrom_47 : decode cX4_pairFrom 47 = .ok (.iload_n 1, 1) := by decide +kernel
theorem dX4_pairFrom_48 : decode cX4_pairFrom 48 = .ok (.iconst 1, 1) := by decide +kernel
theorem dX4_pairFrom_49 : decode cX4_pairFrom 49 = .ok (.iadd, 1) := by decide +kernel
theorem dX4_pairFrom_50 : decode cX4_pairFrom 50 = .ok (.iload_n 2, 1) := by decide +kernel
theorem dX4_pairFrom_51 : decode cX4_pairFrom 51 = .ok (.iload_n 3, 1) := by decide +kernel
theorem dX4_pairFrom_52 : decode cX4_pairFrom 52 = .ok (.iload 4, 2) := by decide +kernel
theorem dX4_pairFrom_54 : decode cX4_pairFrom 54 = .ok (.invokevirtual 29, 3) := by decide +kernel
theorem dX4_pairFrom_57 : decode cX4_pairFrom 57 = .ok (.return_, 1) := by decide +kernel
theorem dX4_pairFrom_58 : decode cX4_pairFrom 58 = .ok (.iload_n 1, 1) := by decide +kernel
theorem dX4_pairFrom_59 : decode cX4_pairFrom 59 = .ok (.iconst 1, 1) := by decide +kernel
theorem dX4_pairFrom_60 : decode cX4_pairFrom 60 = .ok (.iadd, 1) := by decide +kernel
theorem dX4_pairFrom_61 : decode cX4_pairFrom 61 = .ok (.istore 5, 2) := by decide +kernel
theorem dX4_pairFrom_63 : decode cX4_pairFrom 63 = .ok (.iload 5, 2) := by decide +kernel
theorem dX4_pairFrom_65 : decode cX4_pairFrom 65 = .ok (.aload_n 0, 1) := by decide +kernel
theorem dX4_pairFrom_66 : decode cX4_pairFrom 66 = .ok (.getfield 21, 3) := by decide +kernel
theorem dX4_pairFrom_69 : decode cX4_pairFrom 69 = .ok (.if_icmp .ge 66, 3) := by decide +kernel
theorem dX4_pairFrom_72 : decode cX4_pairFrom 72 = .ok (.iload_n 2, 1) := by decide +kernel
theorem dX4_pairFrom_73 : decode cX4_pairFrom 73 = .ok (.iload 5, 2) := by decide +kernel
theorem dX4_pairFrom_75 : decode cX4_pairFrom 75 = .ok (.ishr, 1) := by decide +kernel
theorem dX4_pairFrom_76 : decode cX4_pairFrom 76 = .ok (.iconst 1, 1) := by decide +kernel
theorem dX4_pairFrom_77 : decode cX4_pairFrom 77 = .ok (.iand, 1) := by decide +kernel
theorem dX4_pairFrom_78 : decode cX4_pairFrom 78 = .ok (.iconst 1, 1) := by decide +kernel
theorem dX4_pairFrom_79 : decode cX4_pairFrom 79 = .ok (.if_icmp .ne 50, 3) := by decide +kernel
theorem dX4_pairFrom_82 : decode cX4_pairFrom 82 = .ok (.aload_n 0, 1) := by decide +kernel
theorem dX4_pairFrom_83 : decode cX4_pairFrom 83 = .ok (.getfield 15, 3) := by decide +kernel
theorem dX4_pairFrom_86 : decode cX4_pairFrom 86 = .ok (.iload_n 1, 1) := by decide +kernel
theorem dX4_pairFrom_87 : decode cX4_pairFrom 87 = .ok (.iload 5, 2) := by decide +kernel
theorem dX4_pairFrom_89 : decode cX4_pairFrom 89 = .ok (.iastore, 1) := by decide +kernel
theorem dX4_pairFrom_90 : decode cX4_pairFrom 90 = .ok (.aload_n 0, 1) := by decide +kernel
theorem dX4_pairFrom_91 : decode cX4_pairFrom 91 = .ok (.getfield 15, 3) := by decide +kernel
theorem dX4_pairFrom_94 : decode cX4_pairFrom 94 = .ok (.iload 5, 2) := by decide +kernel
theorem dX4_pairFrom_96 : decode cX4_pairFrom 96 = .ok (.iload_n 1, 1) := by decide +kernel
theorem dX4_pairFrom_97 : decode cX4_pairFrom 97 = .ok (.iastore, 1) := by decide +kernel
theorem dX4_pairFrom_98 : decode cX4_pairFrom 98 = .ok (.aload_n 0, 1) := by decide +kernel
theorem dX4_pairFrom_99 : decode cX4_pairFrom 99 = .ok (.iload_n 1, 1) := by decide +kernel
theorem dX4_pairFrom_100 : decode cX4_pairFrom 100 = .ok (.iconst 1, 1) := by decide +kernel
theorem dX4_pairFrom_101 : decode cX4_pairFrom 101 = .ok (.iadd, 1) := by decide +kernel
theorem dX4_pairFrom_102 : decode cX4_pairFrom 102 = .ok (.iload_n 2, 1) := by decide +kernel
theorem dX4_pairFrom_103 : decode cX4_pairFrom 103 = .ok (.iconst 1, 1) := by decide +kernel
theorem dX4_pairFrom_104 : decode cX4_pairFrom 104 = .ok (.iload 5, 2) := by decide +kernel
theorem dX4_pairFrom_106 : decode cX4_pairFrom 106 = .ok (.ishl, 1) := by decide +kernel
theorem dX4_pairFrom_107 : decode cX4_pairFrom 107 = .ok (.iconst (-1), 1) := by decide +kernel
theorem dX4_pairFrom_108 : decode cX4_pairFrom 108 = .ok (.ixor, 1) := by decide +kernel
theorem dX4_pairFrom_109 : decode cX4_pairFrom 109 = .ok (.iand, 1) := by decide +kernel
theorem dX4_pairFrom_110 : decode cX4_pairFrom 110 = .ok (.iload_n 3, 1) := by decide +kernel
theorem dX4_pairFrom_111 : decode cX4_pairFrom 111 = .ok (.aload_n 0, 1) := by decide +kernel
theorem dX4_pairFrom_112 : decode cX4_pairFrom 112 = .ok (.getfield 9, 3) := by decide +kernel
theorem dX4_pairFrom_115 : decode cX4_pairFrom 115 = .ok (.iload_n 1, 1) := by decide +kernel
theorem dX4_pairFrom_116 : decode cX4_pairFrom 116 = .ok (.bipush 8, 2) := by decide +kernel
theorem dX4_pairFrom_118 : decode cX4_pairFrom 118 = .ok (.imul, 1) := by decide +kernel
theorem dX4_pairFrom_119 : decode cX4_pairFrom 119 = .ok (.iload 5, 2) := by decide +kernel
theorem dX4_pairFrom_121 : decode cX4_pairFrom 121 = .ok (.iadd, 1) := by decide +kernel
theorem dX4_pairFrom_122 : decode cX4_pairFrom 122 = .ok (.iaload, 1) := by decide +kernel
theorem dX4_pairFrom_123 : decode cX4_pairFrom 123 = .ok (.iadd, 1) := by decide +kernel
theorem dX4_pairFrom_124 : decode cX4_pairFrom 124 = .ok (.iload 4, 2) := by decide +kernel
theorem dX4_pairFrom_126 : decode cX4_pairFrom 126 = .ok (.invokevirtual 29, 3) := by decide +kernel
theorem dX4_pairFrom_129 : decode cX4_pairFrom 129 = .ok (.iinc 5 1, 3) := by decide +kernel
theorem dX4_pairFrom_132 : decode cX4_pairFrom 132 = .ok (.goto (-69), 3) := by decide +kernel
theorem dX4_pairFrom_135 : decode cX4_pairFrom 135 = .ok (.iload 4, 2) := by decide +kernel
theorem dX4_pairFrom_137 : decode cX4_pairFrom 137 = .ok (.ifCond .eq 20, 3) := by decide +kernel
theorem dX4_pairFrom_140 : decode cX4_pairFrom 140 = .ok (.aload_n 0, 1) := by decide +kernel
theorem dX4_pairFrom_141 : decode cX4_pairFrom 141 = .ok (.getfield 15, 3) := by decide +kernel
theorem dX4_pairFrom_144 : decode cX4_pairFrom 144 = .ok (.iload_n 1, 1) := by decide +kernel
theorem dX4_pairFrom_145 : decode cX4_pairFrom 145 = .ok (.iconst (-1), 1) := by decide +kernel
theorem dX4_pairFrom_146 : decode cX4_pairFrom 146 = .ok (.iastore, 1) := by decide +kernel
theorem dX4_pairFrom_147 : decode cX4_pairFrom 147 = .ok (.aload_n 0, 1) := by decide +kernel
theorem dX4_pairFrom_148 : decode cX4_pairFrom 148 = .ok (.iload_n 1, 1) := by decide +kernel
theorem dX4_pairFrom_149 : decode cX4_pairFrom 149 = .ok (.iconst 1, 1) := by decide +kernel
theorem dX4_pairFrom_150 : decode cX4_pairFrom 150 = .ok (.iadd, 1) := by decide +kernel
theorem dX4_pairFrom_151 : decode cX4_pairFrom 151 = .ok (.iload_n 2, 1) := by decide +kernel
theorem dX4_pairFrom_152 : decode cX4_pairFrom 152 = .ok (.iload_n 3, 1) := by decide +kernel
theorem dX4_pairFrom_153 : decode cX4_pairFrom 153 = .ok (.iconst 0, 1) := by decide +kernel
theorem dX4_pairFrom_154 : decode cX4_pairFrom 154 = .ok (.invokevirtual 29, 3) := by decide +kernel
theorem dX4_pairFrom_157 : decode cX4_pairFrom 157 = .ok (.return_, 1) := by decide +kernel
theorem dX5_init_0 : decode cX5_init 0 = .ok (.aload_n 0, 1) := by decide +kernel
theorem dX5_init_1 : decode cX5_init 1 = .ok (.invokespecial 3, 3) := by decide +kernel
theorem dX5_init_4 : decode cX5_init 4 = .ok (.aload_n 0, 1) := by decide +kernel
theorem dX5_init_5 : decode cX5_init 5 = .ok (.new 9, 3) := by decide +kernel
theorem dX5_init_8 : decode cX5_init 8 = .ok (.dup, 1) := by decide +kernel
theorem dX5_init_9 : decode cX5_init 9 = .ok (.invokespecial 11, 3) := by decide +kernel
theorem dX5_init_12 : decode cX5_init 12 = .ok (.putfield 12, 3) := by decide +kernel
theorem dX5_init_15 : decode cX5_init 15 = .ok (.aload_n 0, 1) := by decide +kernel
theorem dX5_init_16 : decode cX5_init 16 = .ok (.new 18, 3) := by decide +kernel
theorem dX5_init_19 : decode cX5_init 19 = .ok (.dup, 1) := by decide +kernel
theorem dX5_init_20 : decode cX5_init 20 = .ok (.invokespecial 20, 3) := by decide +kernel
theorem dX5_init_23 : decode cX5_init 23 = .ok (.putfield 21, 3) := by decide +kernel
theorem dX5_init_26 : decode cX5_init 26 = .ok (.return_, 1) := by decide +kernel
theorem dX5_read_0 : decode cX5_read 0 = .ok (.aload_n 0, 1) := by decide +kernel
theorem dX5_read_1 : decode cX5_read 1 = .ok (.getfield 21, 3) := by decide +kernel
theorem dX5_read_4 : decode cX5_read 4 = .ok (.aload_n 1, 1) := by decide +kernel
theorem dX5_read_5 : decode cX5_read 5 = .ok (.iload_n 2, 1) := by decide +kernel
theorem dX5_read_6 : decode cX5_read 6 = .ok (.invokevirtual 25, 3) := by decide +kernel
theorem dX5_read_9 : decode cX5_read 9 = .ok (.aload_n 0, 1) := by decide +kernel
theorem dX5_read_10 : decode cX5_read 10 = .ok (.getfield 12, 3) := by decide +kernel
theorem dX5_read_13 : decode cX5_read 13 = .ok (.invokevirtual 29, 3) := by decide +kernel
theorem dX5_read_16 : decode cX5_read 16 = .ok (.aload_n 0, 1) := by decide +kernel
theorem dX5_read_17 : decode cX5_read 17 = .ok (.iconst 0, 1) := by decide +kernel
theorem dX5_read_18 : decode cX5_read 18 = .ok (.putfield 32, 3) := by decide +kernel
theorem dX5_read_21 : decode cX5_read 21 = .ok (.aload_n 0, 1) := by decide +kernel
theorem dX5_read_22 : decode cX5_read 22 = .ok (.iconst 0, 1) := by decide +kernel
theorem dX5_read_23 : decode cX5_read 23 = .ok (.putfield 36, 3) := by decide +kernel
theorem dX5_read_26 : decode cX5_read 26 = .ok (.aload_n 0, 1) := by decide +kernel
theorem dX5_read_27 : decode cX5_read 27 = .ok (.iconst (-1), 1) := by decide +kernel
theorem dX5_read_28 : decode cX5_read 28 = .ok (.putfield 39, 3) := by decide +kernel
theorem dX5_read_31 : decode cX5_read 31 = .ok (.aload_n 0, 1) := by decide +kernel
theorem dX5_read_32 : decode cX5_read 32 = .ok (.invokevirtual 42, 3) := by decide +kernel
theorem dX5_read_35 : decode cX5_read 35 = .ok (.istore_n 3, 1) := by decide +kernel
theorem dX5_read_36 : decode cX5_read 36 = .ok (.iconst 0, 1) := by decide +kernel
theorem dX5_read_37 : decode cX5_read 37 = .ok (.istore 4, 2) := by decide +kernel
theorem dX5_read_39 : decode cX5_read 39 = .ok (.iload 4, 2) := by decide +kernel
theorem dX5_read_41 : decode cX5_read 41 = .ok (.sipush 900, 3) := by decide +kernel
theorem dX5_read_44 : decode cX5_read 44 = .ok (.if_icmp .ge 55, 3) := by decide +kernel
theorem dX5_read_47 : decode cX5_read 47 = .ok (.iload_n 3, 1) := by decide +kernel
theorem dX5_read_48 : decode cX5_read 48 = .ok (.ifCond .eq 51, 3) := by decide +kernel
theorem dX5_read_51 : decode cX5_read 51 = .ok (.aload_n 0, 1) := by decide +kernel
theorem dX5_read_52 : decode cX5_read 52 = .ok (.invokevirtual 46, 3) := by decide +kernel
theorem dX5_read_55 : decode cX5_read 55 = .ok (.ifCond .eq 44, 3) := by decide +kernel
theorem dX5_read_58 : decode cX5_read 58 = .ok (.aload_n 0, 1) := by decide +kernel
theorem dX5_read_59 : decode cX5_read 59 = .ok (.invokevirtual 50, 3) := by decide +kernel
theorem dX5_read_62 : decode cX5_read 62 = .ok (.ifCond .eq 16, 3) := by decide +kernel
theorem dX5_read_65 : decode cX5_read 65 = .ok (.aload_n 0, 1) := by decide +kernel
theorem dX5_read_66 : decode cX5_read 66 = .ok (.bipush 59, 2) := by decide +kernel
theorem dX5_read_68 : decode cX5_read 68 = .ok (.invokevirtual 53, 3) := by decide +kernel
theorem dX5_read_71 : decode cX5_read 71 = .ok (.ifCond .eq 7, 3) := by decide +kernel
theorem dX5_read_74 : decode cX5_read 74 = .ok (.iconst 1, 1) := by decide +kernel
theorem dX5_read_75 : decode cX5_read 75 = .ok (.goto 4, 3) := by decide +kernel
theorem dX5_read_78 : decode cX5_read 78 = .ok (.iconst 0, 1) := by decide +kernel
theorem dX5_read_79 : decode cX5_read 79 = .ok (.istore_n 3, 1) := by decide +kernel
theorem dX5_read_80 : decode cX5_read 80 = .ok (.aload_n 0, 1) := by decide +kernel
theorem dX5_read_81 : decode cX5_read 81 = .ok (.getfield 12, 3) := by decide +kernel
theorem dX5_read_84 : decode cX5_read 84 = .ok (.dup, 1) := by decide +kernel
theorem dX5_read_85 : decode cX5_read 85 = .ok (.getfield 57, 3) := by decide +kernel
theorem dX5_read_88 : decode cX5_read 88 = .ok (.iconst 1, 1) := by decide +kernel
theorem dX5_read_89 : decode cX5_read 89 = .ok (.iadd, 1) := by decide +kernel
theorem dX5_read_90 : decode cX5_read 90 = .ok (.putfield 57, 3) := by decide +kernel
theorem dX5_read_93 : decode cX5_read 93 = .ok (.iinc 4 1, 3) := by decide +kernel
theorem dX5_read_96 : decode cX5_read 96 = .ok (.goto (-57), 3) := by decide +kernel
theorem dX5_read_99 : decode cX5_read 99 = .ok (.iload_n 3, 1) := by decide +kernel
theorem dX5_read_100 : decode cX5_read 100 = .ok (.ireturn, 1) := by decide +kernel
theorem dX5_kind_0 : decode cX5_kind 0 = .ok (.aload_n 0, 1) := by decide +kernel
theorem dX5_kind_1 : decode cX5_kind 1 = .ok (.getfield 32, 3) := by decide +kernel
theorem dX5_kind_4 : decode cX5_kind 4 = .ok (.aload_n 0, 1) := by decide +kernel
theorem dX5_kind_5 : decode cX5_kind 5 = .ok (.getfield 21, 3) := by decide +kernel
theorem dX5_kind_8 : decode cX5_kind 8 = .ok (.getfield 60, 3) := by decide +kernel
theorem dX5_kind_11 : decode cX5_kind 11 = .ok (.arraylength, 1) := by decide +kernel
theorem dX5_kind_12 : decode cX5_kind 12 = .ok (.if_icmp .ge 18, 3) := by decide +kernel
theorem dX5_kind_15 : decode cX5_kind 15 = .ok (.aload_n 0, 1) := by decide +kernel
theorem dX5_kind_16 : decode cX5_kind 16 = .ok (.getfield 21, 3) := by decide +kernel
theorem dX5_kind_19 : decode cX5_kind 19 = .ok (.getfield 60, 3) := by decide +kernel
theorem dX5_kind_22 : decode cX5_kind 22 = .ok (.aload_n 0, 1) := by decide +kernel
theorem dX5_kind_23 : decode cX5_kind 23 = .ok (.getfield 32, 3) := by decide +kernel
theorem dX5_kind_26 : decode cX5_kind 26 = .ok (.iaload, 1) := by decide +kernel
theorem dX5_kind_27 : decode cX5_kind 27 = .ok (.goto 4, 3) := by decide +kernel
theorem dX5_kind_30 : decode cX5_kind 30 = .ok (.iconst 0, 1) := by decide +kernel
theorem dX5_kind_31 : decode cX5_kind 31 = .ok (.ireturn, 1) := by decide +kernel
theorem dX5_blame_0 : decode cX5_blame 0 = .ok (.aload_n 0, 1) := by decide +kernel
theorem dX5_blame_1 : decode cX5_blame 1 = .ok (.iload_n 1, 1) := by decide +kernel
theorem dX5_blame_2 : decode cX5_blame 2 = .ok (.putfield 36, 3) := by decide +kernel
theorem dX5_blame_5 : decode cX5_blame 5 = .ok (.aload_n 0, 1) := by decide +kernel
theorem dX5_blame_6 : decode cX5_blame 6 = .ok (.aload_n 0, 1) := by decide +kernel
theorem dX5_blame_7 : decode cX5_blame 7 = .ok (.getfield 32, 3) := by decide +kernel
theorem dX5_blame_10 : decode cX5_blame 10 = .ok (.aload_n 0, 1) := by decide +kernel
theorem dX5_blame_11 : decode cX5_blame 11 = .ok (.getfield 21, 3) := by decide +kernel
theorem dX5_blame_14 : decode cX5_blame 14 = .ok (.getfield 63, 3) := by decide +kernel
theorem dX5_blame_17 : decode cX5_blame 17 = .ok (.arraylength, 1) := by decide +kernel
theorem dX5_blame_18 : decode cX5_blame 18 = .ok (.if_icmp .ge 18, 3) := by decide +kernel
theorem dX5_blame_21 : decode cX5_blame 21 = .ok (.aload_n 0, 1) := by decide +kernel
theorem dX5_blame_22 : decode cX5_blame 22 = .ok (.getfield 21, 3) := by decide +kernel
theorem dX5_blame_25 : decode cX5_blame 25 = .ok (.getfield 63, 3) := by decide +kernel
theorem dX5_blame_28 : decode cX5_blame 28 = .ok (.aload_n 0, 1) := by decide +kernel
theorem dX5_blame_29 : decode cX5_blame 29 = .ok (.getfield 32, 3) := by decide +kernel
theorem dX5_blame_32 : decode cX5_blame 32 = .ok (.iaload, 1) := by decide +kernel
theorem dX5_blame_33 : decode cX5_blame 33 = .ok (.goto 4, 3) := by decide +kernel
theorem dX5_blame_36 : decode cX5_blame 36 = .ok (.iconst (-1), 1) := by decide +kernel
theorem dX5_blame_37 : decode cX5_blame 37 = .ok (.putfield 39, 3) := by decide +kernel
theorem dX5_blame_40 : decode cX5_blame 40 = .ok (.iconst 0, 1) := by decide +kernel
theorem dX5_blame_41 : decode cX5_blame 41 = .ok (.ireturn, 1) := by decide +kernel
theorem dX5_refuse_0 : decode cX5_refuse 0 = .ok (.aload_n 0, 1) := by decide +kernel
theorem dX5_refuse_1 : decode cX5_refuse 1 = .ok (.aload_n 0, 1) := by decide +kernel
theorem dX5_refuse_2 : decode cX5_refuse 2 = .ok (.invokevirtual 46, 3) := by decide +kernel
theorem dX5_refuse_5 : decode cX5_refuse 5 = .ok (.iconst 1, 1) := by decide +kernel
theorem dX5_refuse_6 : decode cX5_refuse 6 = .ok (.if_icmp .ne 7, 3) := by decide +kernel
theorem dX5_refuse_9 : decode cX5_refuse 9 = .ok (.iconst 1, 1) := by decide +kernel
theorem dX5_refuse_10 : decode cX5_refuse 10 = .ok (.goto 4, 3) := by decide +kernel
theorem dX5_refuse_13 : decode cX5_refuse 13 = .ok (.iconst 2, 1) := by decide +kernel
theorem dX5_refuse_14 : decode cX5_refuse 14 = .ok (.invokevirtual 65, 3) := by decide +kernel
theorem dX5_refuse_17 : decode cX5_refuse 17 = .ok (.ireturn, 1) := by decide +kernel
theorem dX5_accept_0 : decode cX5_accept 0 = .ok (.aload_n 0, 1) := by decide +kernel
theorem dX5_accept_1 : decode cX5_accept 1 = .ok (.invokevirtual 46, 3) := by decide +kernel
theorem dX5_accept_4 : decode cX5_accept 4 = .ok (.iload_n 1, 1) := by decide +kernel
theorem dX5_accept_5 : decode cX5_accept 5 = .ok (.if_icmp .eq 8, 3) := by decide +kernel
theorem dX5_accept_8 : decode cX5_accept 8 = .ok (.aload_n 0, 1) := by decide +kernel
theorem dX5_accept_9 : decode cX5_accept 9 = .ok (.invokevirtual 68, 3) := by decide +kernel
theorem dX5_accept_12 : decode cX5_accept 12 = .ok (.ireturn, 1) := by decide +kernel
theorem dX5_accept_13 : decode cX5_accept 13 = .ok (.aload_n 0, 1) := by decide +kernel
theorem dX5_accept_14 : decode cX5_accept 14 = .ok (.dup, 1) := by decide +kernel
theorem dX5_accept_15 : decode cX5_accept 15 = .ok (.getfield 32, 3) := by decide +kernel
theorem dX5_accept_18 : decode cX5_accept 18 = .ok (.iconst 1, 1) := by decide +kernel
theorem dX5_accept_19 : decode cX5_accept 19 = .ok (.iadd, 1) := by decide +kernel
theorem dX5_accept_20 : decode cX5_accept 20 = .ok (.putfield 32, 3) := by decide +kernel
theorem dX5_accept_23 : decode cX5_accept 23 = .ok (.iconst 1, 1) := by decide +kernel
theorem dX5_accept_24 : decode cX5_accept 24 = .ok (.ireturn, 1) := by decide +kernel
theorem dX5_amount_0 : decode cX5_amount 0 = .ok (.aload_n 0, 1) := by decide +kernel
theorem dX5_amount_1 : decode cX5_amount 1 = .ok (.invokevirtual 46, 3) := by decide +kernel
theorem dX5_amount_4 : decode cX5_amount 4 = .ok (.sipush 1000, 3) := by decide +kernel
theorem dX5_amount_7 : decode cX5_amount 7 = .ok (.isub, 1) := by decide +kernel
theorem dX5_amount_8 : decode cX5_amount 8 = .ok (.istore_n 3, 1) := by decide +kernel
theorem dX5_amount_9 : decode cX5_amount 9 = .ok (.iload_n 3, 1) := by decide +kernel
theorem dX5_amount_10 : decode cX5_amount 10 = .ok (.ifCond .ge 10, 3) := by decide +kernel
theorem dX5_amount_13 : decode cX5_amount 13 = .ok (.aload_n 0, 1) := by decide +kernel
theorem dX5_amount_14 : decode cX5_amount 14 = .ok (.invokevirtual 68, 3) := by decide +kernel
theorem dX5_amount_17 : decode cX5_amount 17 = .ok (.pop, 1) := by decide +kernel
theorem dX5_amount_18 : decode cX5_amount 18 = .ok (.iconst (-1), 1) := by decide +kernel
theorem dX5_amount_19 : decode cX5_amount 19 = .ok (.ireturn, 1) := by decide +kernel
theorem dX5_amount_20 : decode cX5_amount 20 = .ok (.iload_n 3, 1) := by decide +kernel
theorem dX5_amount_21 : decode cX5_amount 21 = .ok (.iload_n 1, 1) := by decide +kernel
theorem dX5_amount_22 : decode cX5_amount 22 = .ok (.if_icmp .lt 8, 3) := by decide +kernel
theorem dX5_amount_25 : decode cX5_amount 25 = .ok (.iload_n 3, 1) := by decide +kernel
theorem dX5_amount_26 : decode cX5_amount 26 = .ok (.iload_n 2, 1) := by decide +kernel
theorem dX5_amount_27 : decode cX5_amount 27 = .ok (.if_icmp .le 11, 3) := by decide +kernel
theorem dX5_amount_30 : decode cX5_amount 30 = .ok (.aload_n 0, 1) := by decide +kernel
theorem dX5_amount_31 : decode cX5_amount 31 = .ok (.iconst 3, 1) := by decide +kernel
theorem dX5_amount_32 : decode cX5_amount 32 = .ok (.invokevirtual 65, 3) := by decide +kernel
theorem dX5_amount_35 : decode cX5_amount 35 = .ok (.pop, 1) := by decide +kernel
theorem dX5_amount_36 : decode cX5_amount 36 = .ok (.iconst (-1), 1) := by decide +kernel
theorem dX5_amount_37 : decode cX5_amount 37 = .ok (.ireturn, 1) := by decide +kernel
theorem dX5_amount_38 : decode cX5_amount 38 = .ok (.aload_n 0, 1) := by decide +kernel
theorem dX5_amount_39 : decode cX5_amount 39 = .ok (.dup, 1) := by decide +kernel
theorem dX5_amount_40 : decode cX5_amount 40 = .ok (.getfield 32, 3) := by decide +kernel
theorem dX5_amount_43 : decode cX5_amount 43 = .ok (.iconst 1, 1) := by decide +kernel
theorem dX5_amount_44 : decode cX5_amount 44 = .ok (.iadd, 1) := by decide +kernel
theorem dX5_amount_45 : decode cX5_amount 45 = .ok (.putfield 32, 3) := by decide +kernel
theorem dX5_amount_48 : decode cX5_amount 48 = .ok (.iload_n 3, 1) := by decide +kernel
theorem dX5_amount_49 : decode cX5_amount 49 = .ok (.ireturn, 1) := by decide +kernel
theorem dX5_firstLine_0 : decode cX5_firstLine 0 = .ok (.aload_n 0, 1) := by decide +kernel
theorem dX5_firstLine_1 : decode cX5_firstLine 1 = .ok (.sipush 200, 3) := by decide +kernel
theorem dX5_firstLine_4 : decode cX5_firstLine 4 = .ok (.invokevirtual 53, 3) := by decide +kernel
theorem dX5_firstLine_7 : decode cX5_firstLine 7 = .ok (.ifCond .ne 5, 3) := by decide +kernel
theorem dX5_firstLine_10 : decode cX5_firstLine 10 = .ok (.iconst 0, 1) := by decide +kernel
theorem dX5_firstLine_11 : decode cX5_firstLine 11 = .ok (.ireturn, 1) := by decide +kernel
theorem dX5_firstLine_12 : decode cX5_firstLine 12 = .ok (.aload_n 0, 1) := by decide +kernel
theorem dX5_firstLine_13 : decode cX5_firstLine 13 = .ok (.iconst 1, 1) := by decide +kernel
theorem dX5_firstLine_14 : decode cX5_firstLine 14 = .ok (.bipush 6, 2) := by decide +kernel
theorem dX5_firstLine_16 : decode cX5_firstLine 16 = .ok (.invokevirtual 71, 3) := by decide +kernel
theorem dX5_firstLine_19 : decode cX5_firstLine 19 = .ok (.istore_n 1, 1) := by decide +kernel
theorem dX5_firstLine_20 : decode cX5_firstLine 20 = .ok (.iload_n 1, 1) := by decide +kernel
theorem dX5_firstLine_21 : decode cX5_firstLine 21 = .ok (.iconst (-1), 1) := by decide +kernel
theorem dX5_firstLine_22 : decode cX5_firstLine 22 = .ok (.if_icmp .eq 12, 3) := by decide +kernel
theorem dX5_firstLine_25 : decode cX5_firstLine 25 = .ok (.aload_n 0, 1) := by decide +kernel
theorem dX5_firstLine_26 : decode cX5_firstLine 26 = .ok (.bipush 59, 2) := by decide +kernel
theorem dX5_firstLine_28 : decode cX5_firstLine 28 = .ok (.invokevirtual 53, 3) := by decide +kernel
theorem dX5_firstLine_31 : decode cX5_firstLine 31 = .ok (.ifCond .ne 5, 3) := by decide +kernel
theorem dX5_firstLine_34 : decode cX5_firstLine 34 = .ok (.iconst 0, 1) := by decide +kernel
theorem dX5_firstLine_35 : decode cX5_firstLine 35 = .ok (.ireturn, 1) := by decide +kernel
theorem dX5_firstLine_36 : decode cX5_firstLine 36 = .ok (.aload_n 0, 1) := by decide +kernel
theorem dX5_firstLine_37 : decode cX5_firstLine 37 = .ok (.getfield 12, 3) := by decide +kernel
theorem dX5_firstLine_40 : decode cX5_firstLine 40 = .ok (.iload_n 1, 1) := by decide +kernel
theorem dX5_firstLine_41 : decode cX5_firstLine 41 = .ok (.putfield 75, 3) := by decide +kernel
theorem dX5_firstLine_44 : decode cX5_firstLine 44 = .ok (.aload_n 0, 1) := by decide +kernel
theorem dX5_firstLine_45 : decode cX5_firstLine 45 = .ok (.getfield 12, 3) := by decide +kernel
theorem dX5_firstLine_48 : decode cX5_firstLine 48 = .ok (.iconst 1, 1) := by decide +kernel
theorem dX5_firstLine_49 : decode cX5_firstLine 49 = .ok (.putfield 57, 3) := by decide +kernel
theorem dX5_firstLine_52 : decode cX5_firstLine 52 = .ok (.iconst 1, 1) := by decide +kernel
theorem dX5_firstLine_53 : decode cX5_firstLine 53 = .ok (.ireturn, 1) := by decide +kernel
theorem dX5_nextLine_0 : decode cX5_nextLine 0 = .ok (.aload_n 0, 1) := by decide +kernel
theorem dX5_nextLine_1 : decode cX5_nextLine 1 = .ok (.invokevirtual 46, 3) := by decide +kernel
theorem dX5_nextLine_4 : decode cX5_nextLine 4 = .ok (.tableswitch 228 201 212 #[64, 228, 69, 228, 228, 74, 228, 79, 101, 123, 145, 186], 64) := by decide +kernel
theorem dX5_nextLine_68 : decode cX5_nextLine 68 = .ok (.aload_n 0, 1) := by decide +kernel
theorem dX5_nextLine_69 : decode cX5_nextLine 69 = .ok (.invokevirtual 78, 3) := by decide +kernel
theorem dX5_nextLine_72 : decode cX5_nextLine 72 = .ok (.ireturn, 1) := by decide +kernel
theorem dX5_nextLine_73 : decode cX5_nextLine 73 = .ok (.aload_n 0, 1) := by decide +kernel
theorem dX5_nextLine_74 : decode cX5_nextLine 74 = .ok (.invokevirtual 81, 3) := by decide +kernel
theorem dX5_nextLine_77 : decode cX5_nextLine 77 = .ok (.ireturn, 1) := by decide +kernel
theorem dX5_nextLine_78 : decode cX5_nextLine 78 = .ok (.aload_n 0, 1) := by decide +kernel
theorem dX5_nextLine_79 : decode cX5_nextLine 79 = .ok (.invokevirtual 84, 3) := by decide +kernel
theorem dX5_nextLine_82 : decode cX5_nextLine 82 = .ok (.ireturn, 1) := by decide +kernel
theorem dX5_nextLine_83 : decode cX5_nextLine 83 = .ok (.aload_n 0, 1) := by decide +kernel
theorem dX5_nextLine_84 : decode cX5_nextLine 84 = .ok (.iconst 0, 1) := by decide +kernel
theorem dX5_nextLine_85 : decode cX5_nextLine 85 = .ok (.invokevirtual 87, 3) := by decide +kernel
theorem dX5_nextLine_88 : decode cX5_nextLine 88 = .ok (.ifCond .eq 15, 3) := by decide +kernel
theorem dX5_nextLine_91 : decode cX5_nextLine 91 = .ok (.aload_n 0, 1) := by decide +kernel
theorem dX5_nextLine_92 : decode cX5_nextLine 92 = .ok (.iconst 0, 1) := by decide +kernel
theorem dX5_nextLine_93 : decode cX5_nextLine 93 = .ok (.invokevirtual 90, 3) := by decide +kernel
theorem dX5_nextLine_96 : decode cX5_nextLine 96 = .ok (.ifCond .eq 7, 3) := by decide +kernel
theorem dX5_nextLine_99 : decode cX5_nextLine 99 = .ok (.iconst 1, 1) := by decide +kernel
theorem dX5_nextLine_100 : decode cX5_nextLine 100 = .ok (.goto 4, 3) := by decide +kernel
theorem dX5_nextLine_103 : decode cX5_nextLine 103 = .ok (.iconst 0, 1) := by decide +kernel
theorem dX5_nextLine_104 : decode cX5_nextLine 104 = .ok (.ireturn, 1) := by decide +kernel
theorem dX5_nextLine_105 : decode cX5_nextLine 105 = .ok (.aload_n 0, 1) := by decide +kernel
theorem dX5_nextLine_106 : decode cX5_nextLine 106 = .ok (.iconst 1, 1) := by decide +kernel
theorem dX5_nextLine_107 : decode cX5_nextLine 107 = .ok (.invokevirtual 87, 3) := by decide +kernel
theorem dX5_nextLine_110 : decode cX5_nextLine 110 = .ok (.ifCond .eq 15, 3) := by decide +kernel
theorem dX5_nextLine_113 : decode cX5_nextLine 113 = .ok (.aload_n 0, 1) := by decide +kernel
theorem dX5_nextLine_114 : decode cX5_nextLine 114 = .ok (.iconst 0, 1) := by decide +kernel
theorem dX5_nextLine_115 : decode cX5_nextLine 115 = .ok (.invokevirtual 93, 3) := by decide +kernel
theorem dX5_nextLine_118 : decode cX5_nextLine 118 = .ok (.ifCond .eq 7, 3) := by decide +kernel
theorem dX5_nextLine_121 : decode cX5_nextLine 121 = .ok (.iconst 1, 1) := by decide +kernel
theorem dX5_nextLine_122 : decode cX5_nextLine 122 = .ok (.goto 4, 3) := by decide +kernel
theorem dX5_nextLine_125 : decode cX5_nextLine 125 = .ok (.iconst 0, 1) := by decide +kernel
theorem dX5_nextLine_126 : decode cX5_nextLine 126 = .ok (.ireturn, 1) := by decide +kernel
theorem dX5_nextLine_127 : decode cX5_nextLine 127 = .ok (.aload_n 0, 1) := by decide +kernel
theorem dX5_nextLine_128 : decode cX5_nextLine 128 = .ok (.iconst 2, 1) := by decide +kernel
theorem dX5_nextLine_129 : decode cX5_nextLine 129 = .ok (.invokevirtual 87, 3) := by decide +kernel
theorem dX5_nextLine_132 : decode cX5_nextLine 132 = .ok (.ifCond .eq 15, 3) := by decide +kernel
theorem dX5_nextLine_135 : decode cX5_nextLine 135 = .ok (.aload_n 0, 1) := by decide +kernel
theorem dX5_nextLine_136 : decode cX5_nextLine 136 = .ok (.iconst 0, 1) := by decide +kernel
theorem dX5_nextLine_137 : decode cX5_nextLine 137 = .ok (.invokevirtual 93, 3) := by decide +kernel
theorem dX5_nextLine_140 : decode cX5_nextLine 140 = .ok (.ifCond .eq 7, 3) := by decide +kernel
theorem dX5_nextLine_143 : decode cX5_nextLine 143 = .ok (.iconst 1, 1) := by decide +kernel
theorem dX5_nextLine_144 : decode cX5_nextLine 144 = .ok (.goto 4, 3) := by decide +kernel
theorem dX5_nextLine_147 : decode cX5_nextLine 147 = .ok (.iconst 0, 1) := by decide +kernel
theorem dX5_nextLine_148 : decode cX5_nextLine 148 = .ok (.ireturn, 1) := by decide +kernel
theorem dX5_nextLine_149 : decode cX5_nextLine 149 = .ok (.aload_n 0, 1) := by decide +kernel
theorem dX5_nextLine_150 : decode cX5_nextLine 150 = .ok (.dup, 1) := by decide +kernel
theorem dX5_nextLine_151 : decode cX5_nextLine 151 = .ok (.getfield 32, 3) := by decide +kernel
theorem dX5_nextLine_154 : decode cX5_nextLine 154 = .ok (.iconst 1, 1) := by decide +kernel
theorem dX5_nextLine_155 : decode cX5_nextLine 155 = .ok (.iadd, 1) := by decide +kernel
theorem dX5_nextLine_156 : decode cX5_nextLine 156 = .ok (.putfield 32, 3) := by decide +kernel
theorem dX5_nextLine_159 : decode cX5_nextLine 159 = .ok (.aload_n 0, 1) := by decide +kernel
theorem dX5_nextLine_160 : decode cX5_nextLine 160 = .ok (.getfield 12, 3) := by decide +kernel
theorem dX5_nextLine_163 : decode cX5_nextLine 163 = .ok (.aload_n 0, 1) := by decide +kernel
theorem dX5_nextLine_164 : decode cX5_nextLine 164 = .ok (.iconst 0, 1) := by decide +kernel
theorem dX5_nextLine_165 : decode cX5_nextLine 165 = .ok (.bipush 99, 2) := by decide +kernel
theorem dX5_nextLine_167 : decode cX5_nextLine 167 = .ok (.invokevirtual 71, 3) := by decide +kernel
theorem dX5_nextLine_170 : decode cX5_nextLine 170 = .ok (.putfield 96, 3) := by decide +kernel
theorem dX5_nextLine_173 : decode cX5_nextLine 173 = .ok (.aload_n 0, 1) := by decide +kernel
theorem dX5_nextLine_174 : decode cX5_nextLine 174 = .ok (.getfield 12, 3) := by decide +kernel
theorem dX5_nextLine_177 : decode cX5_nextLine 177 = .ok (.getfield 96, 3) := by decide +kernel
theorem dX5_nextLine_180 : decode cX5_nextLine 180 = .ok (.iconst (-1), 1) := by decide +kernel
theorem dX5_nextLine_181 : decode cX5_nextLine 181 = .ok (.if_icmp .eq 7, 3) := by decide +kernel
theorem dX5_nextLine_184 : decode cX5_nextLine 184 = .ok (.iconst 1, 1) := by decide +kernel
theorem dX5_nextLine_185 : decode cX5_nextLine 185 = .ok (.goto 4, 3) := by decide +kernel
theorem dX5_nextLine_188 : decode cX5_nextLine 188 = .ok (.iconst 0, 1) := by decide +kernel
theorem dX5_nextLine_189 : decode cX5_nextLine 189 = .ok (.ireturn, 1) := by decide +kernel
theorem dX5_nextLine_190 : decode cX5_nextLine 190 = .ok (.aload_n 0, 1) := by decide +kernel
theorem dX5_nextLine_191 : decode cX5_nextLine 191 = .ok (.dup, 1) := by decide +kernel
theorem dX5_nextLine_192 : decode cX5_nextLine 192 = .ok (.getfield 32, 3) := by decide +kernel
theorem dX5_nextLine_195 : decode cX5_nextLine 195 = .ok (.iconst 1, 1) := by decide +kernel
theorem dX5_nextLine_196 : decode cX5_nextLine 196 = .ok (.iadd, 1) := by decide +kernel
theorem dX5_nextLine_197 : decode cX5_nextLine 197 = .ok (.putfield 32, 3) := by decide +kernel
theorem dX5_nextLine_200 : decode cX5_nextLine 200 = .ok (.aload_n 0, 1) := by decide +kernel
theorem dX5_nextLine_201 : decode cX5_nextLine 201 = .ok (.getfield 12, 3) := by decide +kernel
theorem dX5_nextLine_204 : decode cX5_nextLine 204 = .ok (.aload_n 0, 1) := by decide +kernel
theorem dX5_nextLine_205 : decode cX5_nextLine 205 = .ok (.iconst 0, 1) := by decide +kernel
theorem dX5_nextLine_206 : decode cX5_nextLine 206 = .ok (.sipush 999, 3) := by decide +kernel
theorem dX5_nextLine_209 : decode cX5_nextLine 209 = .ok (.invokevirtual 71, 3) := by decide +kernel
theorem dX5_nextLine_212 : decode cX5_nextLine 212 = .ok (.putfield 99, 3) := by decide +kernel
theorem dX5_nextLine_215 : decode cX5_nextLine 215 = .ok (.aload_n 0, 1) := by decide +kernel
theorem dX5_nextLine_216 : decode cX5_nextLine 216 = .ok (.getfield 12, 3) := by decide +kernel
theorem dX5_nextLine_219 : decode cX5_nextLine 219 = .ok (.getfield 99, 3) := by decide +kernel
theorem dX5_nextLine_222 : decode cX5_nextLine 222 = .ok (.iconst (-1), 1) := by decide +kernel
theorem dX5_nextLine_223 : decode cX5_nextLine 223 = .ok (.if_icmp .eq 7, 3) := by decide +kernel
theorem dX5_nextLine_226 : decode cX5_nextLine 226 = .ok (.iconst 1, 1) := by decide +kernel
theorem dX5_nextLine_227 : decode cX5_nextLine 227 = .ok (.goto 4, 3) := by decide +kernel
theorem dX5_nextLine_230 : decode cX5_nextLine 230 = .ok (.iconst 0, 1) := by decide +kernel
theorem dX5_nextLine_231 : decode cX5_nextLine 231 = .ok (.ireturn, 1) := by decide +kernel
theorem dX5_nextLine_232 : decode cX5_nextLine 232 = .ok (.aload_n 0, 1) := by decide +kernel
theorem dX5_nextLine_233 : decode cX5_nextLine 233 = .ok (.invokevirtual 68, 3) := by decide +kernel
theorem dX5_nextLine_236 : decode cX5_nextLine 236 = .ok (.ireturn, 1) := by decide +kernel
theorem dX5_currentLine_0 : decode cX5_currentLine 0 = .ok (.aload_n 0, 1) := by decide +kernel
theorem dX5_currentLine_1 : decode cX5_currentLine 1 = .ok (.getfield 12, 3) := by decide +kernel
theorem dX5_currentLine_4 : decode cX5_currentLine 4 = .ok (.getfield 102, 3) := by decide +kernel
theorem dX5_currentLine_7 : decode cX5_currentLine 7 = .ok (.istore_n 1, 1) := by decide +kernel
theorem dX5_currentLine_8 : decode cX5_currentLine 8 = .ok (.iload_n 1, 1) := by decide +kernel
theorem dX5_currentLine_9 : decode cX5_currentLine 9 = .ok (.bipush 10, 2) := by decide +kernel
theorem dX5_currentLine_11 : decode cX5_currentLine 11 = .ok (.if_icmp .lt 9, 3) := by decide +kernel
theorem dX5_currentLine_14 : decode cX5_currentLine 14 = .ok (.aload_n 0, 1) := by decide +kernel
theorem dX5_currentLine_15 : decode cX5_currentLine 15 = .ok (.iconst 4, 1) := by decide +kernel
theorem dX5_currentLine_16 : decode cX5_currentLine 16 = .ok (.invokevirtual 65, 3) := by decide +kernel
theorem dX5_currentLine_19 : decode cX5_currentLine 19 = .ok (.ireturn, 1) := by decide +kernel
theorem dX5_currentLine_20 : decode cX5_currentLine 20 = .ok (.aload_n 0, 1) := by decide +kernel
theorem dX5_currentLine_21 : decode cX5_currentLine 21 = .ok (.dup, 1) := by decide +kernel
theorem dX5_currentLine_22 : decode cX5_currentLine 22 = .ok (.getfield 32, 3) := by decide +kernel
theorem dX5_currentLine_25 : decode cX5_currentLine 25 = .ok (.iconst 1, 1) := by decide +kernel
theorem dX5_currentLine_26 : decode cX5_currentLine 26 = .ok (.iadd, 1) := by decide +kernel
theorem dX5_currentLine_27 : decode cX5_currentLine 27 = .ok (.putfield 32, 3) := by decide +kernel
theorem dX5_currentLine_30 : decode cX5_currentLine 30 = .ok (.aload_n 0, 1) := by decide +kernel
theorem dX5_currentLine_31 : decode cX5_currentLine 31 = .ok (.getfield 12, 3) := by decide +kernel
theorem dX5_currentLine_34 : decode cX5_currentLine 34 = .ok (.getfield 105, 3) := by decide +kernel
theorem dX5_currentLine_37 : decode cX5_currentLine 37 = .ok (.iload_n 1, 1) := by decide +kernel
theorem dX5_currentLine_38 : decode cX5_currentLine 38 = .ok (.aload_n 0, 1) := by decide +kernel
theorem dX5_currentLine_39 : decode cX5_currentLine 39 = .ok (.iconst 0, 1) := by decide +kernel
theorem dX5_currentLine_40 : decode cX5_currentLine 40 = .ok (.aload_n 0, 1) := by decide +kernel
theorem dX5_currentLine_41 : decode cX5_currentLine 41 = .ok (.getfield 12, 3) := by decide +kernel
theorem dX5_currentLine_44 : decode cX5_currentLine 44 = .ok (.getfield 75, 3) := by decide +kernel
theorem dX5_currentLine_47 : decode cX5_currentLine 47 = .ok (.iconst 1, 1) := by decide +kernel
theorem dX5_currentLine_48 : decode cX5_currentLine 48 = .ok (.isub, 1) := by decide +kernel
theorem dX5_currentLine_49 : decode cX5_currentLine 49 = .ok (.invokevirtual 71, 3) := by decide +kernel
theorem dX5_currentLine_52 : decode cX5_currentLine 52 = .ok (.iastore, 1) := by decide +kernel
theorem dX5_currentLine_53 : decode cX5_currentLine 53 = .ok (.aload_n 0, 1) := by decide +kernel
theorem dX5_currentLine_54 : decode cX5_currentLine 54 = .ok (.getfield 12, 3) := by decide +kernel
theorem dX5_currentLine_57 : decode cX5_currentLine 57 = .ok (.getfield 105, 3) := by decide +kernel
theorem dX5_currentLine_60 : decode cX5_currentLine 60 = .ok (.iload_n 1, 1) := by decide +kernel
theorem dX5_currentLine_61 : decode cX5_currentLine 61 = .ok (.iaload, 1) := by decide +kernel
theorem dX5_currentLine_62 : decode cX5_currentLine 62 = .ok (.iconst (-1), 1) := by decide +kernel
theorem dX5_currentLine_63 : decode cX5_currentLine 63 = .ok (.if_icmp .ne 5, 3) := by decide +kernel
theorem dX5_currentLine_66 : decode cX5_currentLine 66 = .ok (.iconst 0, 1) := by decide +kernel
theorem dX5_currentLine_67 : decode cX5_currentLine 67 = .ok (.ireturn, 1) := by decide +kernel
theorem dX5_currentLine_68 : decode cX5_currentLine 68 = .ok (.aload_n 0, 1) := by decide +kernel
theorem dX5_currentLine_69 : decode cX5_currentLine 69 = .ok (.invokevirtual 46, 3) := by decide +kernel
theorem dX5_currentLine_72 : decode cX5_currentLine 72 = .ok (.sipush 1000, 3) := by decide +kernel
theorem dX5_currentLine_75 : decode cX5_currentLine 75 = .ok (.aload_n 0, 1) := by decide +kernel
theorem dX5_currentLine_76 : decode cX5_currentLine 76 = .ok (.getfield 12, 3) := by decide +kernel
theorem dX5_currentLine_79 : decode cX5_currentLine 79 = .ok (.getfield 105, 3) := by decide +kernel
theorem dX5_currentLine_82 : decode cX5_currentLine 82 = .ok (.iload_n 1, 1) := by decide +kernel
theorem dX5_currentLine_83 : decode cX5_currentLine 83 = .ok (.iaload, 1) := by decide +kernel
theorem dX5_currentLine_84 : decode cX5_currentLine 84 = .ok (.iadd, 1) := by decide +kernel
theorem dX5_currentLine_85 : decode cX5_currentLine 85 = .ok (.if_icmp .ne 9, 3) := by decide +kernel
theorem dX5_currentLine_88 : decode cX5_currentLine 88 = .ok (.aload_n 0, 1) := by decide +kernel
theorem dX5_currentLine_89 : decode cX5_currentLine 89 = .ok (.iconst 3, 1) := by decide +kernel
theorem dX5_currentLine_90 : decode cX5_currentLine 90 = .ok (.invokevirtual 65, 3) := by decide +kernel
theorem dX5_currentLine_93 : decode cX5_currentLine 93 = .ok (.ireturn, 1) := by decide +kernel
theorem dX5_currentLine_94 : decode cX5_currentLine 94 = .ok (.aload_n 0, 1) := by decide +kernel
theorem dX5_currentLine_95 : decode cX5_currentLine 95 = .ok (.getfield 12, 3) := by decide +kernel
theorem dX5_currentLine_98 : decode cX5_currentLine 98 = .ok (.getfield 108, 3) := by decide +kernel
theorem dX5_currentLine_101 : decode cX5_currentLine 101 = .ok (.iload_n 1, 1) := by decide +kernel
theorem dX5_currentLine_102 : decode cX5_currentLine 102 = .ok (.aload_n 0, 1) := by decide +kernel
theorem dX5_currentLine_103 : decode cX5_currentLine 103 = .ok (.iconst 0, 1) := by decide +kernel
theorem dX5_currentLine_104 : decode cX5_currentLine 104 = .ok (.aload_n 0, 1) := by decide +kernel
theorem dX5_currentLine_105 : decode cX5_currentLine 105 = .ok (.getfield 12, 3) := by decide +kernel
theorem dX5_currentLine_108 : decode cX5_currentLine 108 = .ok (.getfield 75, 3) := by decide +kernel
theorem dX5_currentLine_111 : decode cX5_currentLine 111 = .ok (.iconst 1, 1) := by decide +kernel
theorem dX5_currentLine_112 : decode cX5_currentLine 112 = .ok (.isub, 1) := by decide +kernel
theorem dX5_currentLine_113 : decode cX5_currentLine 113 = .ok (.invokevirtual 71, 3) := by decide +kernel
theorem dX5_currentLine_116 : decode cX5_currentLine 116 = .ok (.iastore, 1) := by decide +kernel
theorem dX5_currentLine_117 : decode cX5_currentLine 117 = .ok (.aload_n 0, 1) := by decide +kernel
theorem dX5_currentLine_118 : decode cX5_currentLine 118 = .ok (.getfield 12, 3) := by decide +kernel
theorem dX5_currentLine_121 : decode cX5_currentLine 121 = .ok (.getfield 108, 3) := by decide +kernel
theorem dX5_currentLine_124 : decode cX5_currentLine 124 = .ok (.iload_n 1, 1) := by decide +kernel
theorem dX5_currentLine_125 : decode cX5_currentLine 125 = .ok (.iaload, 1) := by decide +kernel
theorem dX5_currentLine_126 : decode cX5_currentLine 126 = .ok (.iconst (-1), 1) := by decide +kernel
theorem dX5_currentLine_127 : decode cX5_currentLine 127 = .ok (.if_icmp .eq 13, 3) := by decide +kernel
theorem dX5_currentLine_130 : decode cX5_currentLine 130 = .ok (.aload_n 0, 1) := by decide +kernel
theorem dX5_currentLine_131 : decode cX5_currentLine 131 = .ok (.sipush 202, 3) := by decide +kernel
theorem dX5_currentLine_134 : decode cX5_currentLine 134 = .ok (.invokevirtual 53, 3) := by decide +kernel
theorem dX5_currentLine_137 : decode cX5_currentLine 137 = .ok (.ifCond .ne 5, 3) := by decide +kernel
theorem dX5_currentLine_140 : decode cX5_currentLine 140 = .ok (.iconst 0, 1) := by decide +kernel
theorem dX5_currentLine_141 : decode cX5_currentLine 141 = .ok (.ireturn, 1) := by decide +kernel
theorem dX5_currentLine_142 : decode cX5_currentLine 142 = .ok (.aload_n 0, 1) := by decide +kernel
theorem dX5_currentLine_143 : decode cX5_currentLine 143 = .ok (.getfield 12, 3) := by decide +kernel
theorem dX5_currentLine_146 : decode cX5_currentLine 146 = .ok (.getfield 111, 3) := by decide +kernel
theorem dX5_currentLine_149 : decode cX5_currentLine 149 = .ok (.iload_n 1, 1) := by decide +kernel
theorem dX5_currentLine_150 : decode cX5_currentLine 150 = .ok (.aload_n 0, 1) := by decide +kernel
theorem dX5_currentLine_151 : decode cX5_currentLine 151 = .ok (.iconst 1, 1) := by decide +kernel
theorem dX5_currentLine_152 : decode cX5_currentLine 152 = .ok (.bipush 9, 2) := by decide +kernel
theorem dX5_currentLine_154 : decode cX5_currentLine 154 = .ok (.invokevirtual 71, 3) := by decide +kernel
theorem dX5_currentLine_157 : decode cX5_currentLine 157 = .ok (.iastore, 1) := by decide +kernel
theorem dX5_currentLine_158 : decode cX5_currentLine 158 = .ok (.aload_n 0, 1) := by decide +kernel
theorem dX5_currentLine_159 : decode cX5_currentLine 159 = .ok (.getfield 12, 3) := by decide +kernel
theorem dX5_currentLine_162 : decode cX5_currentLine 162 = .ok (.dup, 1) := by decide +kernel
theorem dX5_currentLine_163 : decode cX5_currentLine 163 = .ok (.getfield 102, 3) := by decide +kernel
theorem dX5_currentLine_166 : decode cX5_currentLine 166 = .ok (.iconst 1, 1) := by decide +kernel
theorem dX5_currentLine_167 : decode cX5_currentLine 167 = .ok (.iadd, 1) := by decide +kernel
theorem dX5_currentLine_168 : decode cX5_currentLine 168 = .ok (.putfield 102, 3) := by decide +kernel
theorem dX5_currentLine_171 : decode cX5_currentLine 171 = .ok (.aload_n 0, 1) := by decide +kernel
theorem dX5_currentLine_172 : decode cX5_currentLine 172 = .ok (.getfield 12, 3) := by decide +kernel
theorem dX5_currentLine_175 : decode cX5_currentLine 175 = .ok (.getfield 111, 3) := by decide +kernel
theorem dX5_currentLine_178 : decode cX5_currentLine 178 = .ok (.iload_n 1, 1) := by decide +kernel
theorem dX5_currentLine_179 : decode cX5_currentLine 179 = .ok (.iaload, 1) := by decide +kernel
theorem dX5_currentLine_180 : decode cX5_currentLine 180 = .ok (.iconst (-1), 1) := by decide +kernel
theorem dX5_currentLine_181 : decode cX5_currentLine 181 = .ok (.if_icmp .eq 7, 3) := by decide +kernel
theorem dX5_currentLine_184 : decode cX5_currentLine 184 = .ok (.iconst 1, 1) := by decide +kernel
theorem dX5_currentLine_185 : decode cX5_currentLine 185 = .ok (.goto 4, 3) := by decide +kernel
theorem dX5_currentLine_188 : decode cX5_currentLine 188 = .ok (.iconst 0, 1) := by decide +kernel
theorem dX5_currentLine_189 : decode cX5_currentLine 189 = .ok (.ireturn, 1) := by decide +kernel
theorem dX5_personLine_0 : decode cX5_personLine 0 = .ok (.aload_n 0, 1) := by decide +kernel
theorem dX5_personLine_1 : decode cX5_personLine 1 = .ok (.getfield 12, 3) := by decide +kernel
theorem dX5_personLine_4 : decode cX5_personLine 4 = .ok (.getfield 114, 3) := by decide +kernel
theorem dX5_personLine_7 : decode cX5_personLine 7 = .ok (.istore_n 1, 1) := by decide +kernel
theorem dX5_personLine_8 : decode cX5_personLine 8 = .ok (.iload_n 1, 1) := by decide +kernel
theorem dX5_personLine_9 : decode cX5_personLine 9 = .ok (.bipush 6, 2) := by decide +kernel
theorem dX5_personLine_11 : decode cX5_personLine 11 = .ok (.if_icmp .lt 9, 3) := by decide +kernel
theorem dX5_personLine_14 : decode cX5_personLine 14 = .ok (.aload_n 0, 1) := by decide +kernel
theorem dX5_personLine_15 : decode cX5_personLine 15 = .ok (.iconst 4, 1) := by decide +kernel
theorem dX5_personLine_16 : decode cX5_personLine 16 = .ok (.invokevirtual 65, 3) := by decide +kernel
theorem dX5_personLine_19 : decode cX5_personLine 19 = .ok (.ireturn, 1) := by decide +kernel
theorem dX5_personLine_20 : decode cX5_personLine 20 = .ok (.aload_n 0, 1) := by decide +kernel
theorem dX5_personLine_21 : decode cX5_personLine 21 = .ok (.dup, 1) := by decide +kernel
theorem dX5_personLine_22 : decode cX5_personLine 22 = .ok (.getfield 32, 3) := by decide +kernel
theorem dX5_personLine_25 : decode cX5_personLine 25 = .ok (.iconst 1, 1) := by decide +kernel
theorem dX5_personLine_26 : decode cX5_personLine 26 = .ok (.iadd, 1) := by decide +kernel
theorem dX5_personLine_27 : decode cX5_personLine 27 = .ok (.putfield 32, 3) := by decide +kernel
theorem dX5_personLine_30 : decode cX5_personLine 30 = .ok (.aload_n 0, 1) := by decide +kernel
theorem dX5_personLine_31 : decode cX5_personLine 31 = .ok (.getfield 12, 3) := by decide +kernel
theorem dX5_personLine_34 : decode cX5_personLine 34 = .ok (.getfield 117, 3) := by decide +kernel
theorem dX5_personLine_37 : decode cX5_personLine 37 = .ok (.iload_n 1, 1) := by decide +kernel
theorem dX5_personLine_38 : decode cX5_personLine 38 = .ok (.iconst (-1), 1) := by decide +kernel
theorem dX5_personLine_39 : decode cX5_personLine 39 = .ok (.iastore, 1) := by decide +kernel
theorem dX5_personLine_40 : decode cX5_personLine 40 = .ok (.iconst 0, 1) := by decide +kernel
theorem dX5_personLine_41 : decode cX5_personLine 41 = .ok (.istore_n 2, 1) := by decide +kernel
theorem dX5_personLine_42 : decode cX5_personLine 42 = .ok (.iload_n 2, 1) := by decide +kernel
theorem dX5_personLine_43 : decode cX5_personLine 43 = .ok (.sipush 900, 3) := by decide +kernel
theorem dX5_personLine_46 : decode cX5_personLine 46 = .ok (.if_icmp .ge 112, 3) := by decide +kernel
theorem dX5_personLine_49 : decode cX5_personLine 49 = .ok (.aload_n 0, 1) := by decide +kernel
theorem dX5_personLine_50 : decode cX5_personLine 50 = .ok (.invokevirtual 46, 3) := by decide +kernel
theorem dX5_personLine_53 : decode cX5_personLine 53 = .ok (.sipush 204, 3) := by decide +kernel
theorem dX5_personLine_56 : decode cX5_personLine 56 = .ok (.if_icmp .eq 13, 3) := by decide +kernel
theorem dX5_personLine_59 : decode cX5_personLine 59 = .ok (.aload_n 0, 1) := by decide +kernel
theorem dX5_personLine_60 : decode cX5_personLine 60 = .ok (.invokevirtual 46, 3) := by decide +kernel
theorem dX5_personLine_63 : decode cX5_personLine 63 = .ok (.sipush 205, 3) := by decide +kernel
theorem dX5_personLine_66 : decode cX5_personLine 66 = .ok (.if_icmp .ne 92, 3) := by decide +kernel
theorem dX5_personLine_69 : decode cX5_personLine 69 = .ok (.aload_n 0, 1) := by decide +kernel
theorem dX5_personLine_70 : decode cX5_personLine 70 = .ok (.invokevirtual 46, 3) := by decide +kernel
theorem dX5_personLine_73 : decode cX5_personLine 73 = .ok (.sipush 204, 3) := by decide +kernel
theorem dX5_personLine_76 : decode cX5_personLine 76 = .ok (.if_icmp .ne 7, 3) := by decide +kernel
theorem dX5_personLine_79 : decode cX5_personLine 79 = .ok (.iconst 1, 1) := by decide +kernel
theorem dX5_personLine_80 : decode cX5_personLine 80 = .ok (.goto 4, 3) := by decide +kernel
theorem dX5_personLine_83 : decode cX5_personLine 83 = .ok (.iconst 0, 1) := by decide +kernel
theorem dX5_personLine_84 : decode cX5_personLine 84 = .ok (.istore_n 3, 1) := by decide +kernel
theorem dX5_personLine_85 : decode cX5_personLine 85 = .ok (.aload_n 0, 1) := by decide +kernel
theorem dX5_personLine_86 : decode cX5_personLine 86 = .ok (.dup, 1) := by decide +kernel
theorem dX5_personLine_87 : decode cX5_personLine 87 = .ok (.getfield 32, 3) := by decide +kernel
theorem dX5_personLine_90 : decode cX5_personLine 90 = .ok (.iconst 1, 1) := by decide +kernel
theorem dX5_personLine_91 : decode cX5_personLine 91 = .ok (.iadd, 1) := by decide +kernel
theorem dX5_personLine_92 : decode cX5_personLine 92 = .ok (.putfield 32, 3) := by decide +kernel
theorem dX5_personLine_95 : decode cX5_personLine 95 = .ok (.iload_n 3, 1) := by decide +kernel
theorem dX5_personLine_96 : decode cX5_personLine 96 = .ok (.ifCond .eq 41, 3) := by decide +kernel
theorem dX5_personLine_99 : decode cX5_personLine 99 = .ok (.aload_n 0, 1) := by decide +kernel
theorem dX5_personLine_100 : decode cX5_personLine 100 = .ok (.getfield 12, 3) := by decide +kernel
theorem dX5_personLine_103 : decode cX5_personLine 103 = .ok (.getfield 117, 3) := by decide +kernel
theorem dX5_personLine_106 : decode cX5_personLine 106 = .ok (.iload_n 1, 1) := by decide +kernel
theorem dX5_personLine_107 : decode cX5_personLine 107 = .ok (.aload_n 0, 1) := by decide +kernel
theorem dX5_personLine_108 : decode cX5_personLine 108 = .ok (.iconst 0, 1) := by decide +kernel
theorem dX5_personLine_109 : decode cX5_personLine 109 = .ok (.aload_n 0, 1) := by decide +kernel
theorem dX5_personLine_110 : decode cX5_personLine 110 = .ok (.getfield 12, 3) := by decide +kernel
theorem dX5_personLine_113 : decode cX5_personLine 113 = .ok (.getfield 75, 3) := by decide +kernel
theorem dX5_personLine_116 : decode cX5_personLine 116 = .ok (.iconst 1, 1) := by decide +kernel
theorem dX5_personLine_117 : decode cX5_personLine 117 = .ok (.isub, 1) := by decide +kernel
theorem dX5_personLine_118 : decode cX5_personLine 118 = .ok (.invokevirtual 71, 3) := by decide +kernel
theorem dX5_personLine_121 : decode cX5_personLine 121 = .ok (.iastore, 1) := by decide +kernel
theorem dX5_personLine_122 : decode cX5_personLine 122 = .ok (.aload_n 0, 1) := by decide +kernel
theorem dX5_personLine_123 : decode cX5_personLine 123 = .ok (.getfield 12, 3) := by decide +kernel
theorem dX5_personLine_126 : decode cX5_personLine 126 = .ok (.getfield 117, 3) := by decide +kernel
theorem dX5_personLine_129 : decode cX5_personLine 129 = .ok (.iload_n 1, 1) := by decide +kernel
theorem dX5_personLine_130 : decode cX5_personLine 130 = .ok (.iaload, 1) := by decide +kernel
theorem dX5_personLine_131 : decode cX5_personLine 131 = .ok (.iconst (-1), 1) := by decide +kernel
theorem dX5_personLine_132 : decode cX5_personLine 132 = .ok (.if_icmp .ne 20, 3) := by decide +kernel
theorem dX5_personLine_135 : decode cX5_personLine 135 = .ok (.iconst 0, 1) := by decide +kernel
theorem dX5_personLine_136 : decode cX5_personLine 136 = .ok (.ireturn, 1) := by decide +kernel
theorem dX5_personLine_137 : decode cX5_personLine 137 = .ok (.aload_n 0, 1) := by decide +kernel
theorem dX5_personLine_138 : decode cX5_personLine 138 = .ok (.getfield 12, 3) := by decide +kernel
theorem dX5_personLine_141 : decode cX5_personLine 141 = .ok (.dup, 1) := by decide +kernel
theorem dX5_personLine_142 : decode cX5_personLine 142 = .ok (.getfield 120, 3) := by decide +kernel
theorem dX5_personLine_145 : decode cX5_personLine 145 = .ok (.iconst 1, 1) := by decide +kernel
theorem dX5_personLine_146 : decode cX5_personLine 146 = .ok (.iload_n 1, 1) := by decide +kernel
theorem dX5_personLine_147 : decode cX5_personLine 147 = .ok (.ishl, 1) := by decide +kernel
theorem dX5_personLine_148 : decode cX5_personLine 148 = .ok (.ior, 1) := by decide +kernel
theorem dX5_personLine_149 : decode cX5_personLine 149 = .ok (.putfield 120, 3) := by decide +kernel
theorem dX5_personLine_152 : decode cX5_personLine 152 = .ok (.iinc 2 1, 3) := by decide +kernel
theorem dX5_personLine_155 : decode cX5_personLine 155 = .ok (.goto (-113), 3) := by decide +kernel
theorem dX5_personLine_158 : decode cX5_personLine 158 = .ok (.aload_n 0, 1) := by decide +kernel
theorem dX5_personLine_159 : decode cX5_personLine 159 = .ok (.getfield 12, 3) := by decide +kernel
theorem dX5_personLine_162 : decode cX5_personLine 162 = .ok (.dup, 1) := by decide +kernel
theorem dX5_personLine_163 : decode cX5_personLine 163 = .ok (.getfield 114, 3) := by decide +kernel
theorem dX5_personLine_166 : decode cX5_personLine 166 = .ok (.iconst 1, 1) := by decide +kernel
theorem dX5_personLine_167 : decode cX5_personLine 167 = .ok (.iadd, 1) := by decide +kernel
theorem dX5_personLine_168 : decode cX5_personLine 168 = .ok (.putfield 114, 3) := by decide +kernel
theorem dX5_personLine_171 : decode cX5_personLine 171 = .ok (.iconst 1, 1) := by decide +kernel
theorem dX5_personLine_172 : decode cX5_personLine 172 = .ok (.ireturn, 1) := by decide +kernel
theorem dX5_shellLine_0 : decode cX5_shellLine 0 = .ok (.aload_n 0, 1) := by decide +kernel
theorem dX5_shellLine_1 : decode cX5_shellLine 1 = .ok (.getfield 12, 3) := by decide +kernel
theorem dX5_shellLine_4 : decode cX5_shellLine 4 = .ok (.getfield 123, 3) := by decide +kernel
theorem dX5_shellLine_7 : decode cX5_shellLine 7 = .ok (.istore_n 1, 1) := by decide +kernel
theorem dX5_shellLine_8 : decode cX5_shellLine 8 = .ok (.iload_n 1, 1) := by decide +kernel
theorem dX5_shellLine_9 : decode cX5_shellLine 9 = .ok (.bipush 8, 2) := by decide +kernel
theorem dX5_shellLine_11 : decode cX5_shellLine 11 = .ok (.if_icmp .lt 9, 3) := by decide +kernel
theorem dX5_shellLine_14 : decode cX5_shellLine 14 = .ok (.aload_n 0, 1) := by decide +kernel
theorem dX5_shellLine_15 : decode cX5_shellLine 15 = .ok (.iconst 4, 1) := by decide +kernel
theorem dX5_shellLine_16 : decode cX5_shellLine 16 = .ok (.invokevirtual 65, 3) := by decide +kernel
theorem dX5_shellLine_19 : decode cX5_shellLine 19 = .ok (.ireturn, 1) := by decide +kernel
theorem dX5_shellLine_20 : decode cX5_shellLine 20 = .ok (.aload_n 0, 1) := by decide +kernel
theorem dX5_shellLine_21 : decode cX5_shellLine 21 = .ok (.dup, 1) := by decide +kernel
theorem dX5_shellLine_22 : decode cX5_shellLine 22 = .ok (.getfield 32, 3) := by decide +kernel
theorem dX5_shellLine_25 : decode cX5_shellLine 25 = .ok (.iconst 1, 1) := by decide +kernel
theorem dX5_shellLine_26 : decode cX5_shellLine 26 = .ok (.iadd, 1) := by decide +kernel
theorem dX5_shellLine_27 : decode cX5_shellLine 27 = .ok (.putfield 32, 3) := by decide +kernel
theorem dX5_shellLine_30 : decode cX5_shellLine 30 = .ok (.aload_n 0, 1) := by decide +kernel
theorem dX5_shellLine_31 : decode cX5_shellLine 31 = .ok (.getfield 12, 3) := by decide +kernel
theorem dX5_shellLine_34 : decode cX5_shellLine 34 = .ok (.getfield 126, 3) := by decide +kernel
theorem dX5_shellLine_37 : decode cX5_shellLine 37 = .ok (.iload_n 1, 1) := by decide +kernel
theorem dX5_shellLine_38 : decode cX5_shellLine 38 = .ok (.iconst (-1), 1) := by decide +kernel
theorem dX5_shellLine_39 : decode cX5_shellLine 39 = .ok (.iastore, 1) := by decide +kernel
theorem dX5_shellLine_40 : decode cX5_shellLine 40 = .ok (.aload_n 0, 1) := by decide +kernel
theorem dX5_shellLine_41 : decode cX5_shellLine 41 = .ok (.getfield 12, 3) := by decide +kernel
theorem dX5_shellLine_44 : decode cX5_shellLine 44 = .ok (.getfield 129, 3) := by decide +kernel
theorem dX5_shellLine_47 : decode cX5_shellLine 47 = .ok (.iload_n 1, 1) := by decide +kernel
theorem dX5_shellLine_48 : decode cX5_shellLine 48 = .ok (.aload_n 0, 1) := by decide +kernel
theorem dX5_shellLine_49 : decode cX5_shellLine 49 = .ok (.iconst 0, 1) := by decide +kernel
theorem dX5_shellLine_50 : decode cX5_shellLine 50 = .ok (.aload_n 0, 1) := by decide +kernel
theorem dX5_shellLine_51 : decode cX5_shellLine 51 = .ok (.getfield 12, 3) := by decide +kernel
theorem dX5_shellLine_54 : decode cX5_shellLine 54 = .ok (.getfield 75, 3) := by decide +kernel
theorem dX5_shellLine_57 : decode cX5_shellLine 57 = .ok (.iconst 1, 1) := by decide +kernel
theorem dX5_shellLine_58 : decode cX5_shellLine 58 = .ok (.isub, 1) := by decide +kernel
theorem dX5_shellLine_59 : decode cX5_shellLine 59 = .ok (.invokevirtual 71, 3) := by decide +kernel
theorem dX5_shellLine_62 : decode cX5_shellLine 62 = .ok (.iastore, 1) := by decide +kernel
theorem dX5_shellLine_63 : decode cX5_shellLine 63 = .ok (.aload_n 0, 1) := by decide +kernel
theorem dX5_shellLine_64 : decode cX5_shellLine 64 = .ok (.getfield 12, 3) := by decide +kernel
theorem dX5_shellLine_67 : decode cX5_shellLine 67 = .ok (.getfield 129, 3) := by decide +kernel
theorem dX5_shellLine_70 : decode cX5_shellLine 70 = .ok (.iload_n 1, 1) := by decide +kernel
theorem dX5_shellLine_71 : decode cX5_shellLine 71 = .ok (.iaload, 1) := by decide +kernel
theorem dX5_shellLine_72 : decode cX5_shellLine 72 = .ok (.iconst (-1), 1) := by decide +kernel
theorem dX5_shellLine_73 : decode cX5_shellLine 73 = .ok (.if_icmp .ne 5, 3) := by decide +kernel
theorem dX5_shellLine_76 : decode cX5_shellLine 76 = .ok (.iconst 0, 1) := by decide +kernel
theorem dX5_shellLine_77 : decode cX5_shellLine 77 = .ok (.ireturn, 1) := by decide +kernel
theorem dX5_shellLine_78 : decode cX5_shellLine 78 = .ok (.aload_n 0, 1) := by decide +kernel
theorem dX5_shellLine_79 : decode cX5_shellLine 79 = .ok (.invokevirtual 46, 3) := by decide +kernel
theorem dX5_shellLine_82 : decode cX5_shellLine 82 = .ok (.sipush 207, 3) := by decide +kernel
theorem dX5_shellLine_85 : decode cX5_shellLine 85 = .ok (.if_icmp .ne 51, 3) := by decide +kernel
theorem dX5_shellLine_88 : decode cX5_shellLine 88 = .ok (.aload_n 0, 1) := by decide +kernel
theorem dX5_shellLine_89 : decode cX5_shellLine 89 = .ok (.dup, 1) := by decide +kernel
theorem dX5_shellLine_90 : decode cX5_shellLine 90 = .ok (.getfield 32, 3) := by decide +kernel
theorem dX5_shellLine_93 : decode cX5_shellLine 93 = .ok (.iconst 1, 1) := by decide +kernel
theorem dX5_shellLine_94 : decode cX5_shellLine 94 = .ok (.iadd, 1) := by decide +kernel
theorem dX5_shellLine_95 : decode cX5_shellLine 95 = .ok (.putfield 32, 3) := by decide +kernel
theorem dX5_shellLine_98 : decode cX5_shellLine 98 = .ok (.aload_n 0, 1) := by decide +kernel
theorem dX5_shellLine_99 : decode cX5_shellLine 99 = .ok (.getfield 12, 3) := by decide +kernel
theorem dX5_shellLine_102 : decode cX5_shellLine 102 = .ok (.getfield 126, 3) := by decide +kernel
theorem dX5_shellLine_105 : decode cX5_shellLine 105 = .ok (.iload_n 1, 1) := by decide +kernel
theorem dX5_shellLine_106 : decode cX5_shellLine 106 = .ok (.aload_n 0, 1) := by decide +kernel
theorem dX5_shellLine_107 : decode cX5_shellLine 107 = .ok (.iconst 0, 1) := by decide +kernel
theorem dX5_shellLine_108 : decode cX5_shellLine 108 = .ok (.aload_n 0, 1) := by decide +kernel
theorem dX5_shellLine_109 : decode cX5_shellLine 109 = .ok (.getfield 12, 3) := by decide +kernel
theorem dX5_shellLine_112 : decode cX5_shellLine 112 = .ok (.getfield 114, 3) := by decide +kernel
theorem dX5_shellLine_115 : decode cX5_shellLine 115 = .ok (.iconst 1, 1) := by decide +kernel
theorem dX5_shellLine_116 : decode cX5_shellLine 116 = .ok (.isub, 1) := by decide +kernel
theorem dX5_shellLine_117 : decode cX5_shellLine 117 = .ok (.invokevirtual 71, 3) := by decide +kernel
theorem dX5_shellLine_120 : decode cX5_shellLine 120 = .ok (.iastore, 1) := by decide +kernel
theorem dX5_shellLine_121 : decode cX5_shellLine 121 = .ok (.aload_n 0, 1) := by decide +kernel
theorem dX5_shellLine_122 : decode cX5_shellLine 122 = .ok (.getfield 12, 3) := by decide +kernel
theorem dX5_shellLine_125 : decode cX5_shellLine 125 = .ok (.getfield 126, 3) := by decide +kernel
theorem dX5_shellLine_128 : decode cX5_shellLine 128 = .ok (.iload_n 1, 1) := by decide +kernel
theorem dX5_shellLine_129 : decode cX5_shellLine 129 = .ok (.iaload, 1) := by decide +kernel
theorem dX5_shellLine_130 : decode cX5_shellLine 130 = .ok (.iconst (-1), 1) := by decide +kernel
theorem dX5_shellLine_131 : decode cX5_shellLine 131 = .ok (.if_icmp .ne 5, 3) := by decide +kernel
theorem dX5_shellLine_134 : decode cX5_shellLine 134 = .ok (.iconst 0, 1) := by decide +kernel
theorem dX5_shellLine_135 : decode cX5_shellLine 135 = .ok (.ireturn, 1) := by decide +kernel
theorem dX5_shellLine_136 : decode cX5_shellLine 136 = .ok (.aload_n 0, 1) := by decide +kernel
theorem dX5_shellLine_137 : decode cX5_shellLine 137 = .ok (.getfield 12, 3) := by decide +kernel
theorem dX5_shellLine_140 : decode cX5_shellLine 140 = .ok (.dup, 1) := by decide +kernel
theorem dX5_shellLine_141 : decode cX5_shellLine 141 = .ok (.getfield 123, 3) := by decide +kernel
theorem dX5_shellLine_144 : decode cX5_shellLine 144 = .ok (.iconst 1, 1) := by decide +kernel
theorem dX5_shellLine_145 : decode cX5_shellLine 145 = .ok (.iadd, 1) := by decide +kernel
theorem dX5_shellLine_146 : decode cX5_shellLine 146 = .ok (.putfield 123, 3) := by decide +kernel
theorem dX5_shellLine_149 : decode cX5_shellLine 149 = .ok (.iconst 1, 1) := by decide +kernel
theorem dX5_shellLine_150 : decode cX5_shellLine 150 = .ok (.ireturn, 1) := by decide +kernel
theorem dX5_lawLine_0 : decode cX5_lawLine 0 = .ok (.aload_n 0, 1) := by decide +kernel
theorem dX5_lawLine_1 : decode cX5_lawLine 1 = .ok (.dup, 1) := by decide +kernel
theorem dX5_lawLine_2 : decode cX5_lawLine 2 = .ok (.getfield 32, 3) := by decide +kernel
theorem dX5_lawLine_5 : decode cX5_lawLine 5 = .ok (.iconst 1, 1) := by decide +kernel
theorem dX5_lawLine_6 : decode cX5_lawLine 6 = .ok (.iadd, 1) := by decide +kernel
theorem dX5_lawLine_7 : decode cX5_lawLine 7 = .ok (.putfield 32, 3) := by decide +kernel
theorem dX5_lawLine_10 : decode cX5_lawLine 10 = .ok (.aload_n 0, 1) := by decide +kernel
theorem dX5_lawLine_11 : decode cX5_lawLine 11 = .ok (.iload_n 1, 1) := by decide +kernel
theorem dX5_lawLine_12 : decode cX5_lawLine 12 = .ok (.putfield 132, 3) := by decide +kernel
theorem dX5_lawLine_15 : decode cX5_lawLine 15 = .ok (.aload_n 0, 1) := by decide +kernel
theorem dX5_lawLine_16 : decode cX5_lawLine 16 = .ok (.getfield 12, 3) := by decide +kernel
theorem dX5_lawLine_19 : decode cX5_lawLine 19 = .ok (.getfield 135, 3) := by decide +kernel
theorem dX5_lawLine_22 : decode cX5_lawLine 22 = .ok (.iload_n 1, 1) := by decide +kernel
theorem dX5_lawLine_23 : decode cX5_lawLine 23 = .ok (.invokevirtual 139, 3) := by decide +kernel
theorem dX5_lawLine_26 : decode cX5_lawLine 26 = .ok (.aload_n 0, 1) := by decide +kernel
theorem dX5_lawLine_27 : decode cX5_lawLine 27 = .ok (.bipush 58, 2) := by decide +kernel
theorem dX5_lawLine_29 : decode cX5_lawLine 29 = .ok (.invokevirtual 53, 3) := by decide +kernel
theorem dX5_lawLine_32 : decode cX5_lawLine 32 = .ok (.ireturn, 1) := by decide +kernel
theorem dX5_truth_0 : decode cX5_truth 0 = .ok (.aload_n 0, 1) := by decide +kernel
theorem dX5_truth_1 : decode cX5_truth 1 = .ok (.iload_n 1, 1) := by decide +kernel
theorem dX5_truth_2 : decode cX5_truth 2 = .ok (.invokevirtual 145, 3) := by decide +kernel
theorem dX5_truth_5 : decode cX5_truth 5 = .ok (.ifCond .ne 5, 3) := by decide +kernel
theorem dX5_truth_8 : decode cX5_truth 8 = .ok (.iconst 0, 1) := by decide +kernel
theorem dX5_truth_9 : decode cX5_truth 9 = .ok (.ireturn, 1) := by decide +kernel
theorem dX5_truth_10 : decode cX5_truth 10 = .ok (.iconst 0, 1) := by decide +kernel
theorem dX5_truth_11 : decode cX5_truth 11 = .ok (.istore_n 2, 1) := by decide +kernel
theorem dX5_truth_12 : decode cX5_truth 12 = .ok (.iload_n 2, 1) := by decide +kernel
theorem dX5_truth_13 : decode cX5_truth 13 = .ok (.sipush 900, 3) := by decide +kernel
theorem dX5_truth_16 : decode cX5_truth 16 = .ok (.if_icmp .ge 56, 3) := by decide +kernel
theorem dX5_truth_19 : decode cX5_truth 19 = .ok (.aload_n 0, 1) := by decide +kernel
theorem dX5_truth_20 : decode cX5_truth 20 = .ok (.invokevirtual 46, 3) := by decide +kernel
theorem dX5_truth_23 : decode cX5_truth 23 = .ok (.sipush 213, 3) := by decide +kernel
theorem dX5_truth_26 : decode cX5_truth 26 = .ok (.if_icmp .ne 46, 3) := by decide +kernel
theorem dX5_truth_29 : decode cX5_truth 29 = .ok (.aload_n 0, 1) := by decide +kernel
theorem dX5_truth_30 : decode cX5_truth 30 = .ok (.dup, 1) := by decide +kernel
theorem dX5_truth_31 : decode cX5_truth 31 = .ok (.getfield 32, 3) := by decide +kernel
theorem dX5_truth_34 : decode cX5_truth 34 = .ok (.iconst 1, 1) := by decide +kernel
theorem dX5_truth_35 : decode cX5_truth 35 = .ok (.iadd, 1) := by decide +kernel
theorem dX5_truth_36 : decode cX5_truth 36 = .ok (.putfield 32, 3) := by decide +kernel
theorem dX5_truth_39 : decode cX5_truth 39 = .ok (.aload_n 0, 1) := by decide +kernel
theorem dX5_truth_40 : decode cX5_truth 40 = .ok (.iload_n 1, 1) := by decide +kernel
theorem dX5_truth_41 : decode cX5_truth 41 = .ok (.invokevirtual 145, 3) := by decide +kernel
theorem dX5_truth_44 : decode cX5_truth 44 = .ok (.ifCond .ne 5, 3) := by decide +kernel
theorem dX5_truth_47 : decode cX5_truth 47 = .ok (.iconst 0, 1) := by decide +kernel
theorem dX5_truth_48 : decode cX5_truth 48 = .ok (.ireturn, 1) := by decide +kernel
theorem dX5_truth_49 : decode cX5_truth 49 = .ok (.aload_n 0, 1) := by decide +kernel
theorem dX5_truth_50 : decode cX5_truth 50 = .ok (.getfield 12, 3) := by decide +kernel
theorem dX5_truth_53 : decode cX5_truth 53 = .ok (.getfield 135, 3) := by decide +kernel
theorem dX5_truth_56 : decode cX5_truth 56 = .ok (.aload_n 0, 1) := by decide +kernel
theorem dX5_truth_57 : decode cX5_truth 57 = .ok (.getfield 132, 3) := by decide +kernel
theorem dX5_truth_60 : decode cX5_truth 60 = .ok (.sipush 1018, 3) := by decide +kernel
theorem dX5_truth_63 : decode cX5_truth 63 = .ok (.invokevirtual 148, 3) := by decide +kernel
theorem dX5_truth_66 : decode cX5_truth 66 = .ok (.iinc 2 1, 3) := by decide +kernel
theorem dX5_truth_69 : decode cX5_truth 69 = .ok (.goto (-57), 3) := by decide +kernel
theorem dX5_truth_72 : decode cX5_truth 72 = .ok (.iconst 1, 1) := by decide +kernel
theorem dX5_truth_73 : decode cX5_truth 73 = .ok (.ireturn, 1) := by decide +kernel
theorem dX5_both_0 : decode cX5_both 0 = .ok (.aload_n 0, 1) := by decide +kernel
theorem dX5_both_1 : decode cX5_both 1 = .ok (.iload_n 1, 1) := by decide +kernel
theorem dX5_both_2 : decode cX5_both 2 = .ok (.invokevirtual 152, 3) := by decide +kernel
theorem dX5_both_5 : decode cX5_both 5 = .ok (.ifCond .ne 5, 3) := by decide +kernel
theorem dX5_both_8 : decode cX5_both 8 = .ok (.iconst 0, 1) := by decide +kernel
theorem dX5_both_9 : decode cX5_both 9 = .ok (.ireturn, 1) := by decide +kernel
theorem dX5_both_10 : decode cX5_both 10 = .ok (.iconst 0, 1) := by decide +kernel
theorem dX5_both_11 : decode cX5_both 11 = .ok (.istore_n 2, 1) := by decide +kernel
theorem dX5_both_12 : decode cX5_both 12 = .ok (.iload_n 2, 1) := by decide +kernel
theorem dX5_both_13 : decode cX5_both 13 = .ok (.sipush 900, 3) := by decide +kernel
theorem dX5_both_16 : decode cX5_both 16 = .ok (.if_icmp .ge 56, 3) := by decide +kernel
theorem dX5_both_19 : decode cX5_both 19 = .ok (.aload_n 0, 1) := by decide +kernel
theorem dX5_both_20 : decode cX5_both 20 = .ok (.invokevirtual 46, 3) := by decide +kernel
theorem dX5_both_23 : decode cX5_both 23 = .ok (.sipush 214, 3) := by decide +kernel
theorem dX5_both_26 : decode cX5_both 26 = .ok (.if_icmp .ne 46, 3) := by decide +kernel
theorem dX5_both_29 : decode cX5_both 29 = .ok (.aload_n 0, 1) := by decide +kernel
theorem dX5_both_30 : decode cX5_both 30 = .ok (.dup, 1) := by decide +kernel
theorem dX5_both_31 : decode cX5_both 31 = .ok (.getfield 32, 3) := by decide +kernel
theorem dX5_both_34 : decode cX5_both 34 = .ok (.iconst 1, 1) := by decide +kernel
theorem dX5_both_35 : decode cX5_both 35 = .ok (.iadd, 1) := by decide +kernel
theorem dX5_both_36 : decode cX5_both 36 = .ok (.putfield 32, 3) := by decide +kernel
theorem dX5_both_39 : decode cX5_both 39 = .ok (.aload_n 0, 1) := by decide +kernel
theorem dX5_both_40 : decode cX5_both 40 = .ok (.iload_n 1, 1) := by decide +kernel
theorem dX5_both_41 : decode cX5_both 41 = .ok (.invokevirtual 152, 3) := by decide +kernel
theorem dX5_both_44 : decode cX5_both 44 = .ok (.ifCond .ne 5, 3) := by decide +kernel
theorem dX5_both_47 : decode cX5_both 47 = .ok (.iconst 0, 1) := by decide +kernel
theorem dX5_both_48 : decode cX5_both 48 = .ok (.ireturn, 1) := by decide +kernel
theorem dX5_both_49 : decode cX5_both 49 = .ok (.aload_n 0, 1) := by decide +kernel
theorem dX5_both_50 : decode cX5_both 50 = .ok (.getfield 12, 3) := by decide +kernel
theorem dX5_both_53 : decode cX5_both 53 = .ok (.getfield 135, 3) := by decide +kernel
theorem dX5_both_56 : decode cX5_both 56 = .ok (.aload_n 0, 1) := by decide +kernel
theorem dX5_both_57 : decode cX5_both 57 = .ok (.getfield 132, 3) := by decide +kernel
theorem dX5_both_60 : decode cX5_both 60 = .ok (.sipush 1017, 3) := by decide +kernel
theorem dX5_both_63 : decode cX5_both 63 = .ok (.invokevirtual 148, 3) := by decide +kernel
theorem dX5_both_66 : decode cX5_both 66 = .ok (.iinc 2 1, 3) := by decide +kernel
theorem dX5_both_69 : decode cX5_both 69 = .ok (.goto (-57), 3) := by decide +kernel
theorem dX5_both_72 : decode cX5_both 72 = .ok (.iconst 1, 1) := by decide +kernel
theorem dX5_both_73 : decode cX5_both 73 = .ok (.ireturn, 1) := by decide +kernel
theorem dX5_unit_0 : decode cX5_unit 0 = .ok (.aload_n 0, 1) := by decide +kernel
theorem dX5_unit_1 : decode cX5_unit 1 = .ok (.invokevirtual 46, 3) := by decide +kernel
theorem dX5_unit_4 : decode cX5_unit 4 = .ok (.sipush 215, 3) := by decide +kernel
theorem dX5_unit_7 : decode cX5_unit 7 = .ok (.if_icmp .ne 42, 3) := by decide +kernel
theorem dX5_unit_10 : decode cX5_unit 10 = .ok (.aload_n 0, 1) := by decide +kernel
theorem dX5_unit_11 : decode cX5_unit 11 = .ok (.iload_n 1, 1) := by decide +kernel
theorem dX5_unit_12 : decode cX5_unit 12 = .ok (.invokevirtual 155, 3) := by decide +kernel
theorem dX5_unit_15 : decode cX5_unit 15 = .ok (.ifCond .eq 13, 3) := by decide +kernel
theorem dX5_unit_18 : decode cX5_unit 18 = .ok (.aload_n 0, 1) := by decide +kernel
theorem dX5_unit_19 : decode cX5_unit 19 = .ok (.iload_n 1, 1) := by decide +kernel
theorem dX5_unit_20 : decode cX5_unit 20 = .ok (.iconst 1, 1) := by decide +kernel
theorem dX5_unit_21 : decode cX5_unit 21 = .ok (.iadd, 1) := by decide +kernel
theorem dX5_unit_22 : decode cX5_unit 22 = .ok (.invokevirtual 152, 3) := by decide +kernel
theorem dX5_unit_25 : decode cX5_unit 25 = .ok (.ifCond .ne 5, 3) := by decide +kernel
theorem dX5_unit_28 : decode cX5_unit 28 = .ok (.iconst 0, 1) := by decide +kernel
theorem dX5_unit_29 : decode cX5_unit 29 = .ok (.ireturn, 1) := by decide +kernel
theorem dX5_unit_30 : decode cX5_unit 30 = .ok (.aload_n 0, 1) := by decide +kernel
theorem dX5_unit_31 : decode cX5_unit 31 = .ok (.getfield 12, 3) := by decide +kernel
theorem dX5_unit_34 : decode cX5_unit 34 = .ok (.getfield 135, 3) := by decide +kernel
theorem dX5_unit_37 : decode cX5_unit 37 = .ok (.aload_n 0, 1) := by decide +kernel
theorem dX5_unit_38 : decode cX5_unit 38 = .ok (.getfield 132, 3) := by decide +kernel
theorem dX5_unit_41 : decode cX5_unit 41 = .ok (.sipush 1010, 3) := by decide +kernel
theorem dX5_unit_44 : decode cX5_unit 44 = .ok (.invokevirtual 148, 3) := by decide +kernel
theorem dX5_unit_47 : decode cX5_unit 47 = .ok (.iconst 1, 1) := by decide +kernel
theorem dX5_unit_48 : decode cX5_unit 48 = .ok (.ireturn, 1) := by decide +kernel
theorem dX5_unit_49 : decode cX5_unit 49 = .ok (.aload_n 0, 1) := by decide +kernel
theorem dX5_unit_50 : decode cX5_unit 50 = .ok (.invokevirtual 46, 3) := by decide +kernel
theorem dX5_unit_53 : decode cX5_unit 53 = .ok (.bipush 91, 2) := by decide +kernel
theorem dX5_unit_55 : decode cX5_unit 55 = .ok (.if_icmp .ne 36, 3) := by decide +kernel
theorem dX5_unit_58 : decode cX5_unit 58 = .ok (.aload_n 0, 1) := by decide +kernel
theorem dX5_unit_59 : decode cX5_unit 59 = .ok (.iload_n 1, 1) := by decide +kernel
theorem dX5_unit_60 : decode cX5_unit 60 = .ok (.invokevirtual 155, 3) := by decide +kernel
theorem dX5_unit_63 : decode cX5_unit 63 = .ok (.ifCond .eq 26, 3) := by decide +kernel
theorem dX5_unit_66 : decode cX5_unit 66 = .ok (.aload_n 0, 1) := by decide +kernel
theorem dX5_unit_67 : decode cX5_unit 67 = .ok (.iload_n 1, 1) := by decide +kernel
theorem dX5_unit_68 : decode cX5_unit 68 = .ok (.iconst 1, 1) := by decide +kernel
theorem dX5_unit_69 : decode cX5_unit 69 = .ok (.iadd, 1) := by decide +kernel
theorem dX5_unit_70 : decode cX5_unit 70 = .ok (.invokevirtual 93, 3) := by decide +kernel
theorem dX5_unit_73 : decode cX5_unit 73 = .ok (.ifCond .eq 16, 3) := by decide +kernel
theorem dX5_unit_76 : decode cX5_unit 76 = .ok (.aload_n 0, 1) := by decide +kernel
theorem dX5_unit_77 : decode cX5_unit 77 = .ok (.bipush 93, 2) := by decide +kernel
theorem dX5_unit_79 : decode cX5_unit 79 = .ok (.invokevirtual 53, 3) := by decide +kernel
theorem dX5_unit_82 : decode cX5_unit 82 = .ok (.ifCond .eq 7, 3) := by decide +kernel
theorem dX5_unit_85 : decode cX5_unit 85 = .ok (.iconst 1, 1) := by decide +kernel
theorem dX5_unit_86 : decode cX5_unit 86 = .ok (.goto 4, 3) := by decide +kernel
theorem dX5_unit_89 : decode cX5_unit 89 = .ok (.iconst 0, 1) := by decide +kernel
theorem dX5_unit_90 : decode cX5_unit 90 = .ok (.ireturn, 1) := by decide +kernel
theorem dX5_unit_91 : decode cX5_unit 91 = .ok (.aload_n 0, 1) := by decide +kernel
theorem dX5_unit_92 : decode cX5_unit 92 = .ok (.iload_n 1, 1) := by decide +kernel
theorem dX5_unit_93 : decode cX5_unit 93 = .ok (.invokevirtual 90, 3) := by decide +kernel
theorem dX5_unit_96 : decode cX5_unit 96 = .ok (.ifCond .ne 5, 3) := by decide +kernel
theorem dX5_unit_99 : decode cX5_unit 99 = .ok (.iconst 0, 1) := by decide +kernel
theorem dX5_unit_100 : decode cX5_unit 100 = .ok (.ireturn, 1) := by decide +kernel
theorem dX5_unit_101 : decode cX5_unit 101 = .ok (.aload_n 0, 1) := by decide +kernel
theorem dX5_unit_102 : decode cX5_unit 102 = .ok (.invokevirtual 46, 3) := by decide +kernel
theorem dX5_unit_105 : decode cX5_unit 105 = .ok (.invokestatic 158, 3) := by decide +kernel
theorem dX5_unit_108 : decode cX5_unit 108 = .ok (.istore_n 2, 1) := by decide +kernel
theorem dX5_unit_109 : decode cX5_unit 109 = .ok (.iload_n 2, 1) := by decide +kernel
theorem dX5_unit_110 : decode cX5_unit 110 = .ok (.iconst (-1), 1) := by decide +kernel
theorem dX5_unit_111 : decode cX5_unit 111 = .ok (.if_icmp .ne 8, 3) := by decide +kernel
theorem dX5_unit_114 : decode cX5_unit 114 = .ok (.aload_n 0, 1) := by decide +kernel
theorem dX5_unit_115 : decode cX5_unit 115 = .ok (.invokevirtual 68, 3) := by decide +kernel
theorem dX5_unit_118 : decode cX5_unit 118 = .ok (.ireturn, 1) := by decide +kernel
theorem dX5_unit_119 : decode cX5_unit 119 = .ok (.aload_n 0, 1) := by decide +kernel
theorem dX5_unit_120 : decode cX5_unit 120 = .ok (.dup, 1) := by decide +kernel
theorem dX5_unit_121 : decode cX5_unit 121 = .ok (.getfield 32, 3) := by decide +kernel
theorem dX5_unit_124 : decode cX5_unit 124 = .ok (.iconst 1, 1) := by decide +kernel
theorem dX5_unit_125 : decode cX5_unit 125 = .ok (.iadd, 1) := by decide +kernel
theorem dX5_unit_126 : decode cX5_unit 126 = .ok (.putfield 32, 3) := by decide +kernel
theorem dX5_unit_129 : decode cX5_unit 129 = .ok (.aload_n 0, 1) := by decide +kernel
theorem dX5_unit_130 : decode cX5_unit 130 = .ok (.iload_n 1, 1) := by decide +kernel
theorem dX5_unit_131 : decode cX5_unit 131 = .ok (.invokevirtual 90, 3) := by decide +kernel
theorem dX5_unit_134 : decode cX5_unit 134 = .ok (.ifCond .ne 5, 3) := by decide +kernel
theorem dX5_unit_137 : decode cX5_unit 137 = .ok (.iconst 0, 1) := by decide +kernel
theorem dX5_unit_138 : decode cX5_unit 138 = .ok (.ireturn, 1) := by decide +kernel
theorem dX5_unit_139 : decode cX5_unit 139 = .ok (.aload_n 0, 1) := by decide +kernel
theorem dX5_unit_140 : decode cX5_unit 140 = .ok (.getfield 12, 3) := by decide +kernel
theorem dX5_unit_143 : decode cX5_unit 143 = .ok (.getfield 135, 3) := by decide +kernel
theorem dX5_unit_146 : decode cX5_unit 146 = .ok (.aload_n 0, 1) := by decide +kernel
theorem dX5_unit_147 : decode cX5_unit 147 = .ok (.getfield 132, 3) := by decide +kernel
theorem dX5_unit_150 : decode cX5_unit 150 = .ok (.iload_n 2, 1) := by decide +kernel
theorem dX5_unit_151 : decode cX5_unit 151 = .ok (.invokevirtual 148, 3) := by decide +kernel
theorem dX5_unit_154 : decode cX5_unit 154 = .ok (.iconst 1, 1) := by decide +kernel
theorem dX5_unit_155 : decode cX5_unit 155 = .ok (.ireturn, 1) := by decide +kernel
theorem dX5_sum_0 : decode cX5_sum 0 = .ok (.aload_n 0, 1) := by decide +kernel
theorem dX5_sum_1 : decode cX5_sum 1 = .ok (.iload_n 1, 1) := by decide +kernel
theorem dX5_sum_2 : decode cX5_sum 2 = .ok (.invokevirtual 162, 3) := by decide +kernel
theorem dX5_sum_5 : decode cX5_sum 5 = .ok (.ifCond .ne 5, 3) := by decide +kernel
theorem dX5_sum_8 : decode cX5_sum 8 = .ok (.iconst 0, 1) := by decide +kernel
theorem dX5_sum_9 : decode cX5_sum 9 = .ok (.ireturn, 1) := by decide +kernel
theorem dX5_sum_10 : decode cX5_sum 10 = .ok (.iconst 0, 1) := by decide +kernel
theorem dX5_sum_11 : decode cX5_sum 11 = .ok (.istore_n 2, 1) := by decide +kernel
theorem dX5_sum_12 : decode cX5_sum 12 = .ok (.iload_n 2, 1) := by decide +kernel
theorem dX5_sum_13 : decode cX5_sum 13 = .ok (.sipush 900, 3) := by decide +kernel
theorem dX5_sum_16 : decode cX5_sum 16 = .ok (.if_icmp .ge 81, 3) := by decide +kernel
theorem dX5_sum_19 : decode cX5_sum 19 = .ok (.aload_n 0, 1) := by decide +kernel
theorem dX5_sum_20 : decode cX5_sum 20 = .ok (.invokevirtual 46, 3) := by decide +kernel
theorem dX5_sum_23 : decode cX5_sum 23 = .ok (.bipush 43, 2) := by decide +kernel
theorem dX5_sum_25 : decode cX5_sum 25 = .ok (.if_icmp .eq 12, 3) := by decide +kernel
theorem dX5_sum_28 : decode cX5_sum 28 = .ok (.aload_n 0, 1) := by decide +kernel
theorem dX5_sum_29 : decode cX5_sum 29 = .ok (.invokevirtual 46, 3) := by decide +kernel
theorem dX5_sum_32 : decode cX5_sum 32 = .ok (.bipush 45, 2) := by decide +kernel
theorem dX5_sum_34 : decode cX5_sum 34 = .ok (.if_icmp .ne 63, 3) := by decide +kernel
theorem dX5_sum_37 : decode cX5_sum 37 = .ok (.aload_n 0, 1) := by decide +kernel
theorem dX5_sum_38 : decode cX5_sum 38 = .ok (.invokevirtual 46, 3) := by decide +kernel
theorem dX5_sum_41 : decode cX5_sum 41 = .ok (.bipush 43, 2) := by decide +kernel
theorem dX5_sum_43 : decode cX5_sum 43 = .ok (.if_icmp .ne 9, 3) := by decide +kernel
theorem dX5_sum_46 : decode cX5_sum 46 = .ok (.sipush 1011, 3) := by decide +kernel
theorem dX5_sum_49 : decode cX5_sum 49 = .ok (.goto 6, 3) := by decide +kernel
theorem dX5_sum_52 : decode cX5_sum 52 = .ok (.sipush 1012, 3) := by decide +kernel
theorem dX5_sum_55 : decode cX5_sum 55 = .ok (.istore_n 3, 1) := by decide +kernel
theorem dX5_sum_56 : decode cX5_sum 56 = .ok (.aload_n 0, 1) := by decide +kernel
theorem dX5_sum_57 : decode cX5_sum 57 = .ok (.dup, 1) := by decide +kernel
theorem dX5_sum_58 : decode cX5_sum 58 = .ok (.getfield 32, 3) := by decide +kernel
theorem dX5_sum_61 : decode cX5_sum 61 = .ok (.iconst 1, 1) := by decide +kernel
theorem dX5_sum_62 : decode cX5_sum 62 = .ok (.iadd, 1) := by decide +kernel
theorem dX5_sum_63 : decode cX5_sum 63 = .ok (.putfield 32, 3) := by decide +kernel
theorem dX5_sum_66 : decode cX5_sum 66 = .ok (.aload_n 0, 1) := by decide +kernel
theorem dX5_sum_67 : decode cX5_sum 67 = .ok (.iload_n 1, 1) := by decide +kernel
theorem dX5_sum_68 : decode cX5_sum 68 = .ok (.invokevirtual 162, 3) := by decide +kernel
theorem dX5_sum_71 : decode cX5_sum 71 = .ok (.ifCond .ne 5, 3) := by decide +kernel
theorem dX5_sum_74 : decode cX5_sum 74 = .ok (.iconst 0, 1) := by decide +kernel
theorem dX5_sum_75 : decode cX5_sum 75 = .ok (.ireturn, 1) := by decide +kernel
theorem dX5_sum_76 : decode cX5_sum 76 = .ok (.aload_n 0, 1) := by decide +kernel
theorem dX5_sum_77 : decode cX5_sum 77 = .ok (.getfield 12, 3) := by decide +kernel
theorem dX5_sum_80 : decode cX5_sum 80 = .ok (.getfield 135, 3) := by decide +kernel
theorem dX5_sum_83 : decode cX5_sum 83 = .ok (.aload_n 0, 1) := by decide +kernel
theorem dX5_sum_84 : decode cX5_sum 84 = .ok (.getfield 132, 3) := by decide +kernel
theorem dX5_sum_87 : decode cX5_sum 87 = .ok (.iload_n 3, 1) := by decide +kernel
theorem dX5_sum_88 : decode cX5_sum 88 = .ok (.invokevirtual 148, 3) := by decide +kernel
theorem dX5_sum_91 : decode cX5_sum 91 = .ok (.iinc 2 1, 3) := by decide +kernel
theorem dX5_sum_94 : decode cX5_sum 94 = .ok (.goto (-82), 3) := by decide +kernel
theorem dX5_sum_97 : decode cX5_sum 97 = .ok (.iconst 1, 1) := by decide +kernel
theorem dX5_sum_98 : decode cX5_sum 98 = .ok (.ireturn, 1) := by decide +kernel
theorem dX5_term_0 : decode cX5_term 0 = .ok (.aload_n 0, 1) := by decide +kernel
theorem dX5_term_1 : decode cX5_term 1 = .ok (.iload_n 1, 1) := by decide +kernel
theorem dX5_term_2 : decode cX5_term 2 = .ok (.invokevirtual 165, 3) := by decide +kernel
theorem dX5_term_5 : decode cX5_term 5 = .ok (.ifCond .ne 5, 3) := by decide +kernel
theorem dX5_term_8 : decode cX5_term 8 = .ok (.iconst 0, 1) := by decide +kernel
theorem dX5_term_9 : decode cX5_term 9 = .ok (.ireturn, 1) := by decide +kernel
theorem dX5_term_10 : decode cX5_term 10 = .ok (.iconst 0, 1) := by decide +kernel
theorem dX5_term_11 : decode cX5_term 11 = .ok (.istore_n 2, 1) := by decide +kernel
theorem dX5_term_12 : decode cX5_term 12 = .ok (.iload_n 2, 1) := by decide +kernel
theorem dX5_term_13 : decode cX5_term 13 = .ok (.sipush 900, 3) := by decide +kernel
theorem dX5_term_16 : decode cX5_term 16 = .ok (.if_icmp .ge 55, 3) := by decide +kernel
theorem dX5_term_19 : decode cX5_term 19 = .ok (.aload_n 0, 1) := by decide +kernel
theorem dX5_term_20 : decode cX5_term 20 = .ok (.invokevirtual 46, 3) := by decide +kernel
theorem dX5_term_23 : decode cX5_term 23 = .ok (.bipush 42, 2) := by decide +kernel
theorem dX5_term_25 : decode cX5_term 25 = .ok (.if_icmp .ne 46, 3) := by decide +kernel
theorem dX5_term_28 : decode cX5_term 28 = .ok (.aload_n 0, 1) := by decide +kernel
theorem dX5_term_29 : decode cX5_term 29 = .ok (.dup, 1) := by decide +kernel
theorem dX5_term_30 : decode cX5_term 30 = .ok (.getfield 32, 3) := by decide +kernel
theorem dX5_term_33 : decode cX5_term 33 = .ok (.iconst 1, 1) := by decide +kernel
theorem dX5_term_34 : decode cX5_term 34 = .ok (.iadd, 1) := by decide +kernel
theorem dX5_term_35 : decode cX5_term 35 = .ok (.putfield 32, 3) := by decide +kernel
theorem dX5_term_38 : decode cX5_term 38 = .ok (.aload_n 0, 1) := by decide +kernel
theorem dX5_term_39 : decode cX5_term 39 = .ok (.iload_n 1, 1) := by decide +kernel
theorem dX5_term_40 : decode cX5_term 40 = .ok (.invokevirtual 165, 3) := by decide +kernel
theorem dX5_term_43 : decode cX5_term 43 = .ok (.ifCond .ne 5, 3) := by decide +kernel
theorem dX5_term_46 : decode cX5_term 46 = .ok (.iconst 0, 1) := by decide +kernel
theorem dX5_term_47 : decode cX5_term 47 = .ok (.ireturn, 1) := by decide +kernel
theorem dX5_term_48 : decode cX5_term 48 = .ok (.aload_n 0, 1) := by decide +kernel
theorem dX5_term_49 : decode cX5_term 49 = .ok (.getfield 12, 3) := by decide +kernel
theorem dX5_term_52 : decode cX5_term 52 = .ok (.getfield 135, 3) := by decide +kernel
theorem dX5_term_55 : decode cX5_term 55 = .ok (.aload_n 0, 1) := by decide +kernel
theorem dX5_term_56 : decode cX5_term 56 = .ok (.getfield 132, 3) := by decide +kernel
theorem dX5_term_59 : decode cX5_term 59 = .ok (.sipush 1013, 3) := by decide +kernel
theorem dX5_term_62 : decode cX5_term 62 = .ok (.invokevirtual 148, 3) := by decide +kernel
theorem dX5_term_65 : decode cX5_term 65 = .ok (.iinc 2 1, 3) := by decide +kernel
theorem dX5_term_68 : decode cX5_term 68 = .ok (.goto (-56), 3) := by decide +kernel
theorem dX5_term_71 : decode cX5_term 71 = .ok (.iconst 1, 1) := by decide +kernel
theorem dX5_term_72 : decode cX5_term 72 = .ok (.ireturn, 1) := by decide +kernel
theorem dX5_atom_0 : decode cX5_atom 0 = .ok (.aload_n 0, 1) := by decide +kernel
theorem dX5_atom_1 : decode cX5_atom 1 = .ok (.invokevirtual 46, 3) := by decide +kernel
theorem dX5_atom_4 : decode cX5_atom 4 = .ok (.bipush 40, 2) := by decide +kernel
theorem dX5_atom_6 : decode cX5_atom 6 = .ok (.if_icmp .ne 36, 3) := by decide +kernel
theorem dX5_atom_9 : decode cX5_atom 9 = .ok (.aload_n 0, 1) := by decide +kernel
theorem dX5_atom_10 : decode cX5_atom 10 = .ok (.iload_n 1, 1) := by decide +kernel
theorem dX5_atom_11 : decode cX5_atom 11 = .ok (.invokevirtual 155, 3) := by decide +kernel
theorem dX5_atom_14 : decode cX5_atom 14 = .ok (.ifCond .eq 26, 3) := by decide +kernel
theorem dX5_atom_17 : decode cX5_atom 17 = .ok (.aload_n 0, 1) := by decide +kernel
theorem dX5_atom_18 : decode cX5_atom 18 = .ok (.iload_n 1, 1) := by decide +kernel
theorem dX5_atom_19 : decode cX5_atom 19 = .ok (.iconst 1, 1) := by decide +kernel
theorem dX5_atom_20 : decode cX5_atom 20 = .ok (.iadd, 1) := by decide +kernel
theorem dX5_atom_21 : decode cX5_atom 21 = .ok (.invokevirtual 90, 3) := by decide +kernel
theorem dX5_atom_24 : decode cX5_atom 24 = .ok (.ifCond .eq 16, 3) := by decide +kernel
theorem dX5_atom_27 : decode cX5_atom 27 = .ok (.aload_n 0, 1) := by decide +kernel
theorem dX5_atom_28 : decode cX5_atom 28 = .ok (.bipush 41, 2) := by decide +kernel
theorem dX5_atom_30 : decode cX5_atom 30 = .ok (.invokevirtual 53, 3) := by decide +kernel
theorem dX5_atom_33 : decode cX5_atom 33 = .ok (.ifCond .eq 7, 3) := by decide +kernel
theorem dX5_atom_36 : decode cX5_atom 36 = .ok (.iconst 1, 1) := by decide +kernel
theorem dX5_atom_37 : decode cX5_atom 37 = .ok (.goto 4, 3) := by decide +kernel
theorem dX5_atom_40 : decode cX5_atom 40 = .ok (.iconst 0, 1) := by decide +kernel
theorem dX5_atom_41 : decode cX5_atom 41 = .ok (.ireturn, 1) := by decide +kernel
theorem dX5_atom_42 : decode cX5_atom 42 = .ok (.aload_n 0, 1) := by decide +kernel
theorem dX5_atom_43 : decode cX5_atom 43 = .ok (.invokevirtual 46, 3) := by decide +kernel
theorem dX5_atom_46 : decode cX5_atom 46 = .ok (.sipush 1000, 3) := by decide +kernel
theorem dX5_atom_49 : decode cX5_atom 49 = .ok (.if_icmp .lt 14, 3) := by decide +kernel
theorem dX5_atom_52 : decode cX5_atom 52 = .ok (.aload_n 0, 1) := by decide +kernel
theorem dX5_atom_53 : decode cX5_atom 53 = .ok (.invokevirtual 46, 3) := by decide +kernel
theorem dX5_atom_56 : decode cX5_atom 56 = .ok (.sipush 1000, 3) := by decide +kernel
theorem dX5_atom_59 : decode cX5_atom 59 = .ok (.isub, 1) := by decide +kernel
theorem dX5_atom_60 : decode cX5_atom 60 = .ok (.goto 11, 3) := by decide +kernel
theorem dX5_atom_63 : decode cX5_atom 63 = .ok (.aload_n 0, 1) := by decide +kernel
theorem dX5_atom_64 : decode cX5_atom 64 = .ok (.aload_n 0, 1) := by decide +kernel
theorem dX5_atom_65 : decode cX5_atom 65 = .ok (.invokevirtual 46, 3) := by decide +kernel
theorem dX5_atom_68 : decode cX5_atom 68 = .ok (.invokevirtual 168, 3) := by decide +kernel
theorem dX5_atom_71 : decode cX5_atom 71 = .ok (.istore_n 2, 1) := by decide +kernel
theorem dX5_atom_72 : decode cX5_atom 72 = .ok (.iload_n 2, 1) := by decide +kernel
theorem dX5_atom_73 : decode cX5_atom 73 = .ok (.iconst (-1), 1) := by decide +kernel
theorem dX5_atom_74 : decode cX5_atom 74 = .ok (.if_icmp .ne 8, 3) := by decide +kernel
theorem dX5_atom_77 : decode cX5_atom 77 = .ok (.aload_n 0, 1) := by decide +kernel
theorem dX5_atom_78 : decode cX5_atom 78 = .ok (.invokevirtual 68, 3) := by decide +kernel
theorem dX5_atom_81 : decode cX5_atom 81 = .ok (.ireturn, 1) := by decide +kernel
theorem dX5_atom_82 : decode cX5_atom 82 = .ok (.aload_n 0, 1) := by decide +kernel
theorem dX5_atom_83 : decode cX5_atom 83 = .ok (.dup, 1) := by decide +kernel
theorem dX5_atom_84 : decode cX5_atom 84 = .ok (.getfield 32, 3) := by decide +kernel
theorem dX5_atom_87 : decode cX5_atom 87 = .ok (.iconst 1, 1) := by decide +kernel
theorem dX5_atom_88 : decode cX5_atom 88 = .ok (.iadd, 1) := by decide +kernel
theorem dX5_atom_89 : decode cX5_atom 89 = .ok (.putfield 32, 3) := by decide +kernel
theorem dX5_atom_92 : decode cX5_atom 92 = .ok (.aload_n 0, 1) := by decide +kernel
theorem dX5_atom_93 : decode cX5_atom 93 = .ok (.getfield 12, 3) := by decide +kernel
theorem dX5_atom_96 : decode cX5_atom 96 = .ok (.getfield 135, 3) := by decide +kernel
theorem dX5_atom_99 : decode cX5_atom 99 = .ok (.aload_n 0, 1) := by decide +kernel
theorem dX5_atom_100 : decode cX5_atom 100 = .ok (.getfield 132, 3) := by decide +kernel
theorem dX5_atom_103 : decode cX5_atom 103 = .ok (.iload_n 2, 1) := by decide +kernel
theorem dX5_atom_104 : decode cX5_atom 104 = .ok (.invokevirtual 148, 3) := by decide +kernel
theorem dX5_atom_107 : decode cX5_atom 107 = .ok (.iconst 1, 1) := by decide +kernel
theorem dX5_atom_108 : decode cX5_atom 108 = .ok (.ireturn, 1) := by decide +kernel
theorem dX5_goesDeeper_0 : decode cX5_goesDeeper 0 = .ok (.iload_n 1, 1) := by decide +kernel
theorem dX5_goesDeeper_1 : decode cX5_goesDeeper 1 = .ok (.bipush 6, 2) := by decide +kernel
theorem dX5_goesDeeper_3 : decode cX5_goesDeeper 3 = .ok (.if_icmp .lt 9, 3) := by decide +kernel
theorem dX5_goesDeeper_6 : decode cX5_goesDeeper 6 = .ok (.aload_n 0, 1) := by decide +kernel
theorem dX5_goesDeeper_7 : decode cX5_goesDeeper 7 = .ok (.iconst 4, 1) := by decide +kernel
theorem dX5_goesDeeper_8 : decode cX5_goesDeeper 8 = .ok (.invokevirtual 65, 3) := by decide +kernel
theorem dX5_goesDeeper_11 : decode cX5_goesDeeper 11 = .ok (.ireturn, 1) := by decide +kernel
theorem dX5_goesDeeper_12 : decode cX5_goesDeeper 12 = .ok (.aload_n 0, 1) := by decide +kernel
theorem dX5_goesDeeper_13 : decode cX5_goesDeeper 13 = .ok (.dup, 1) := by decide +kernel
theorem dX5_goesDeeper_14 : decode cX5_goesDeeper 14 = .ok (.getfield 32, 3) := by decide +kernel
theorem dX5_goesDeeper_17 : decode cX5_goesDeeper 17 = .ok (.iconst 1, 1) := by decide +kernel
theorem dX5_goesDeeper_18 : decode cX5_goesDeeper 18 = .ok (.iadd, 1) := by decide +kernel
theorem dX5_goesDeeper_19 : decode cX5_goesDeeper 19 = .ok (.putfield 32, 3) := by decide +kernel
theorem dX5_goesDeeper_22 : decode cX5_goesDeeper 22 = .ok (.iconst 1, 1) := by decide +kernel
theorem dX5_goesDeeper_23 : decode cX5_goesDeeper 23 = .ok (.ireturn, 1) := by decide +kernel
theorem dX5_comparing_0 : decode cX5_comparing 0 = .ok (.iload_n 0, 1) := by decide +kernel
theorem dX5_comparing_1 : decode cX5_comparing 1 = .ok (.tableswitch 39 60 62 #[31, 27, 35], 27) := by decide +kernel
theorem dX5_comparing_28 : decode cX5_comparing 28 = .ok (.sipush 1014, 3) := by decide +kernel
theorem dX5_comparing_31 : decode cX5_comparing 31 = .ok (.ireturn, 1) := by decide +kernel
theorem dX5_comparing_32 : decode cX5_comparing 32 = .ok (.sipush 1015, 3) := by decide +kernel
theorem dX5_comparing_35 : decode cX5_comparing 35 = .ok (.ireturn, 1) := by decide +kernel
theorem dX5_comparing_36 : decode cX5_comparing 36 = .ok (.sipush 1016, 3) := by decide +kernel
theorem dX5_comparing_39 : decode cX5_comparing 39 = .ok (.ireturn, 1) := by decide +kernel
theorem dX5_comparing_40 : decode cX5_comparing 40 = .ok (.iconst (-1), 1) := by decide +kernel
theorem dX5_comparing_41 : decode cX5_comparing 41 = .ok (.ireturn, 1) := by decide +kernel
theorem dX5_givenBy_0 : decode cX5_givenBy 0 = .ok (.iload_n 1, 1) := by decide +kernel
theorem dX5_givenBy_1 : decode cX5_givenBy 1 = .ok (.tableswitch 214 202 221 #[150, 214, 214, 214, 214, 214, 214, 214, 214, 99, 95, 214, 214, 214, 103, 118, 134, 166, 182, 198], 95) := by decide +kernel
theorem dX5_givenBy_96 : decode cX5_givenBy 96 = .ok (.sipush 1000, 3) := by decide +kernel
theorem dX5_givenBy_99 : decode cX5_givenBy 99 = .ok (.ireturn, 1) := by decide +kernel
theorem dX5_givenBy_100 : decode cX5_givenBy 100 = .ok (.sipush 1001, 3) := by decide +kernel
theorem dX5_givenBy_103 : decode cX5_givenBy 103 = .ok (.ireturn, 1) := by decide +kernel
theorem dX5_givenBy_104 : decode cX5_givenBy 104 = .ok (.aload_n 0, 1) := by decide +kernel
theorem dX5_givenBy_105 : decode cX5_givenBy 105 = .ok (.getfield 132, 3) := by decide +kernel
theorem dX5_givenBy_108 : decode cX5_givenBy 108 = .ok (.ifCond .ne 9, 3) := by decide +kernel
theorem dX5_givenBy_111 : decode cX5_givenBy 111 = .ok (.sipush 1002, 3) := by decide +kernel
theorem dX5_givenBy_114 : decode cX5_givenBy 114 = .ok (.goto 4, 3) := by decide +kernel
theorem dX5_givenBy_117 : decode cX5_givenBy 117 = .ok (.iconst (-1), 1) := by decide +kernel
theorem dX5_givenBy_118 : decode cX5_givenBy 118 = .ok (.ireturn, 1) := by decide +kernel
theorem dX5_givenBy_119 : decode cX5_givenBy 119 = .ok (.aload_n 0, 1) := by decide +kernel
theorem dX5_givenBy_120 : decode cX5_givenBy 120 = .ok (.getfield 132, 3) := by decide +kernel
theorem dX5_givenBy_123 : decode cX5_givenBy 123 = .ok (.iconst 1, 1) := by decide +kernel
theorem dX5_givenBy_124 : decode cX5_givenBy 124 = .ok (.if_icmp .ne 9, 3) := by decide +kernel
theorem dX5_givenBy_127 : decode cX5_givenBy 127 = .ok (.sipush 1002, 3) := by decide +kernel
theorem dX5_givenBy_130 : decode cX5_givenBy 130 = .ok (.goto 4, 3) := by decide +kernel
theorem dX5_givenBy_133 : decode cX5_givenBy 133 = .ok (.iconst (-1), 1) := by decide +kernel
theorem dX5_givenBy_134 : decode cX5_givenBy 134 = .ok (.ireturn, 1) := by decide +kernel
theorem dX5_givenBy_135 : decode cX5_givenBy 135 = .ok (.aload_n 0, 1) := by decide +kernel
theorem dX5_givenBy_136 : decode cX5_givenBy 136 = .ok (.getfield 132, 3) := by decide +kernel
theorem dX5_givenBy_139 : decode cX5_givenBy 139 = .ok (.iconst 1, 1) := by decide +kernel
theorem dX5_givenBy_140 : decode cX5_givenBy 140 = .ok (.if_icmp .ne 9, 3) := by decide +kernel
theorem dX5_givenBy_143 : decode cX5_givenBy 143 = .ok (.sipush 1003, 3) := by decide +kernel
theorem dX5_givenBy_146 : decode cX5_givenBy 146 = .ok (.goto 4, 3) := by decide +kernel
theorem dX5_givenBy_149 : decode cX5_givenBy 149 = .ok (.iconst (-1), 1) := by decide +kernel
theorem dX5_givenBy_150 : decode cX5_givenBy 150 = .ok (.ireturn, 1) := by decide +kernel
theorem dX5_givenBy_151 : decode cX5_givenBy 151 = .ok (.aload_n 0, 1) := by decide +kernel
theorem dX5_givenBy_152 : decode cX5_givenBy 152 = .ok (.getfield 132, 3) := by decide +kernel
theorem dX5_givenBy_155 : decode cX5_givenBy 155 = .ok (.iconst 1, 1) := by decide +kernel
theorem dX5_givenBy_156 : decode cX5_givenBy 156 = .ok (.if_icmp .ne 9, 3) := by decide +kernel
theorem dX5_givenBy_159 : decode cX5_givenBy 159 = .ok (.sipush 1004, 3) := by decide +kernel
theorem dX5_givenBy_162 : decode cX5_givenBy 162 = .ok (.goto 4, 3) := by decide +kernel
theorem dX5_givenBy_165 : decode cX5_givenBy 165 = .ok (.iconst (-1), 1) := by decide +kernel
theorem dX5_givenBy_166 : decode cX5_givenBy 166 = .ok (.ireturn, 1) := by decide +kernel
theorem dX5_givenBy_167 : decode cX5_givenBy 167 = .ok (.aload_n 0, 1) := by decide +kernel
theorem dX5_givenBy_168 : decode cX5_givenBy 168 = .ok (.getfield 132, 3) := by decide +kernel
theorem dX5_givenBy_171 : decode cX5_givenBy 171 = .ok (.iconst 2, 1) := by decide +kernel
theorem dX5_givenBy_172 : decode cX5_givenBy 172 = .ok (.if_icmp .ne 9, 3) := by decide +kernel
theorem dX5_givenBy_175 : decode cX5_givenBy 175 = .ok (.sipush 1002, 3) := by decide +kernel
theorem dX5_givenBy_178 : decode cX5_givenBy 178 = .ok (.goto 4, 3) := by decide +kernel
theorem dX5_givenBy_181 : decode cX5_givenBy 181 = .ok (.iconst (-1), 1) := by decide +kernel
theorem dX5_givenBy_182 : decode cX5_givenBy 182 = .ok (.ireturn, 1) := by decide +kernel
theorem dX5_givenBy_183 : decode cX5_givenBy 183 = .ok (.aload_n 0, 1) := by decide +kernel
theorem dX5_givenBy_184 : decode cX5_givenBy 184 = .ok (.getfield 132, 3) := by decide +kernel
theorem dX5_givenBy_187 : decode cX5_givenBy 187 = .ok (.iconst 2, 1) := by decide +kernel
theorem dX5_givenBy_188 : decode cX5_givenBy 188 = .ok (.if_icmp .ne 9, 3) := by decide +kernel
theorem dX5_givenBy_191 : decode cX5_givenBy 191 = .ok (.sipush 1003, 3) := by decide +kernel
theorem dX5_givenBy_194 : decode cX5_givenBy 194 = .ok (.goto 4, 3) := by decide +kernel
theorem dX5_givenBy_197 : decode cX5_givenBy 197 = .ok (.iconst (-1), 1) := by decide +kernel
theorem dX5_givenBy_198 : decode cX5_givenBy 198 = .ok (.ireturn, 1) := by decide +kernel
theorem dX5_givenBy_199 : decode cX5_givenBy 199 = .ok (.aload_n 0, 1) := by decide +kernel
theorem dX5_givenBy_200 : decode cX5_givenBy 200 = .ok (.getfield 132, 3) := by decide +kernel
theorem dX5_givenBy_203 : decode cX5_givenBy 203 = .ok (.iconst 2, 1) := by decide +kernel
theorem dX5_givenBy_204 : decode cX5_givenBy 204 = .ok (.if_icmp .ne 9, 3) := by decide +kernel
theorem dX5_givenBy_207 : decode cX5_givenBy 207 = .ok (.sipush 1004, 3) := by decide +kernel
theorem dX5_givenBy_210 : decode cX5_givenBy 210 = .ok (.goto 4, 3) := by decide +kernel
theorem dX5_givenBy_213 : decode cX5_givenBy 213 = .ok (.iconst (-1), 1) := by decide +kernel
theorem dX5_givenBy_214 : decode cX5_givenBy 214 = .ok (.ireturn, 1) := by decide +kernel
theorem dX5_givenBy_215 : decode cX5_givenBy 215 = .ok (.iconst (-1), 1) := by decide +kernel
theorem dX5_givenBy_216 : decode cX5_givenBy 216 = .ok (.ireturn, 1) := by decide +kernel
theorem dX6_init_0 : decode cX6_init 0 = .ok (.aload_n 0, 1) := by decide +kernel
theorem dX6_init_1 : decode cX6_init 1 = .ok (.invokespecial 3, 3) := by decide +kernel
theorem dX6_init_4 : decode cX6_init 4 = .ok (.aload_n 0, 1) := by decide +kernel
theorem dX6_init_5 : decode cX6_init 5 = .ok (.sipush 288, 3) := by decide +kernel
theorem dX6_init_8 : decode cX6_init 8 = .ok (.newarray .int, 2) := by decide +kernel
theorem dX6_init_10 : decode cX6_init 10 = .ok (.putfield 9, 3) := by decide +kernel
theorem dX6_init_13 : decode cX6_init 13 = .ok (.aload_n 0, 1) := by decide +kernel
theorem dX6_init_14 : decode cX6_init 14 = .ok (.bipush 48, 2) := by decide +kernel
theorem dX6_init_16 : decode cX6_init 16 = .ok (.newarray .int, 2) := by decide +kernel
theorem dX6_init_18 : decode cX6_init 18 = .ok (.putfield 15, 3) := by decide +kernel
theorem dX6_init_21 : decode cX6_init 21 = .ok (.aload_n 0, 1) := by decide +kernel
theorem dX6_init_22 : decode cX6_init 22 = .ok (.sipush 432, 3) := by decide +kernel
theorem dX6_init_25 : decode cX6_init 25 = .ok (.newarray .int, 2) := by decide +kernel
theorem dX6_init_27 : decode cX6_init 27 = .ok (.putfield 18, 3) := by decide +kernel
theorem dX6_init_30 : decode cX6_init 30 = .ok (.aload_n 0, 1) := by decide +kernel
theorem dX6_init_31 : decode cX6_init 31 = .ok (.iconst 5, 1) := by decide +kernel
theorem dX6_init_32 : decode cX6_init 32 = .ok (.newarray .int, 2) := by decide +kernel
theorem dX6_init_34 : decode cX6_init 34 = .ok (.putfield 21, 3) := by decide +kernel
theorem dX6_init_37 : decode cX6_init 37 = .ok (.aload_n 0, 1) := by decide +kernel
theorem dX6_init_38 : decode cX6_init 38 = .ok (.bipush 64, 2) := by decide +kernel
theorem dX6_init_40 : decode cX6_init 40 = .ok (.newarray .int, 2) := by decide +kernel
theorem dX6_init_42 : decode cX6_init 42 = .ok (.putfield 24, 3) := by decide +kernel
theorem dX6_init_45 : decode cX6_init 45 = .ok (.aload_n 0, 1) := by decide +kernel
theorem dX6_init_46 : decode cX6_init 46 = .ok (.aload_n 1, 1) := by decide +kernel
theorem dX6_init_47 : decode cX6_init 47 = .ok (.putfield 27, 3) := by decide +kernel
theorem dX6_init_50 : decode cX6_init 50 = .ok (.aload_n 0, 1) := by decide +kernel
theorem dX6_init_51 : decode cX6_init 51 = .ok (.getfield 9, 3) := by decide +kernel
theorem dX6_init_54 : decode cX6_init 54 = .ok (.iconst (-1), 1) := by decide +kernel
theorem dX6_init_55 : decode cX6_init 55 = .ok (.invokestatic 31, 3) := by decide +kernel
theorem dX6_init_58 : decode cX6_init 58 = .ok (.aload_n 0, 1) := by decide +kernel
theorem dX6_init_59 : decode cX6_init 59 = .ok (.getfield 15, 3) := by decide +kernel
theorem dX6_init_62 : decode cX6_init 62 = .ok (.iconst (-1), 1) := by decide +kernel
theorem dX6_init_63 : decode cX6_init 63 = .ok (.invokestatic 31, 3) := by decide +kernel
theorem dX6_init_66 : decode cX6_init 66 = .ok (.aload_n 0, 1) := by decide +kernel
theorem dX6_init_67 : decode cX6_init 67 = .ok (.getfield 18, 3) := by decide +kernel
theorem dX6_init_70 : decode cX6_init 70 = .ok (.iconst (-1), 1) := by decide +kernel
theorem dX6_init_71 : decode cX6_init 71 = .ok (.invokestatic 31, 3) := by decide +kernel
theorem dX6_init_74 : decode cX6_init 74 = .ok (.return_, 1) := by decide +kernel
theorem dX6_forget_0 : decode cX6_forget 0 = .ok (.aload_n 0, 1) := by decide +kernel
theorem dX6_forget_1 : decode cX6_forget 1 = .ok (.getfield 9, 3) := by decide +kernel
theorem dX6_forget_4 : decode cX6_forget 4 = .ok (.iconst (-1), 1) := by decide +kernel
theorem dX6_forget_5 : decode cX6_forget 5 = .ok (.invokestatic 31, 3) := by decide +kernel
theorem dX6_forget_8 : decode cX6_forget 8 = .ok (.aload_n 0, 1) := by decide +kernel
theorem dX6_forget_9 : decode cX6_forget 9 = .ok (.getfield 15, 3) := by decide +kernel
theorem dX6_forget_12 : decode cX6_forget 12 = .ok (.iconst (-1), 1) := by decide +kernel
theorem dX6_forget_13 : decode cX6_forget 13 = .ok (.invokestatic 31, 3) := by decide +kernel
theorem dX6_forget_16 : decode cX6_forget 16 = .ok (.aload_n 0, 1) := by decide +kernel
theorem dX6_forget_17 : decode cX6_forget 17 = .ok (.getfield 18, 3) := by decide +kernel
theorem dX6_forget_20 : decode cX6_forget 20 = .ok (.iconst (-1), 1) := by decide +kernel
theorem dX6_forget_21 : decode cX6_forget 21 = .ok (.invokestatic 31, 3) := by decide +kernel
theorem dX6_forget_24 : decode cX6_forget 24 = .ok (.return_, 1) := by decide +kernel
theorem dX6_soundOf_0 : decode cX6_soundOf 0 = .ok (.iload_n 2, 1) := by decide +kernel
theorem dX6_soundOf_1 : decode cX6_soundOf 1 = .ok (.iload_n 3, 1) := by decide +kernel
theorem dX6_soundOf_2 : decode cX6_soundOf 2 = .ok (.invokestatic 37, 3) := by decide +kernel
theorem dX6_soundOf_5 : decode cX6_soundOf 5 = .ok (.bipush 6, 2) := by decide +kernel
theorem dX6_soundOf_7 : decode cX6_soundOf 7 = .ok (.imul, 1) := by decide +kernel
theorem dX6_soundOf_8 : decode cX6_soundOf 8 = .ok (.iload_n 1, 1) := by decide +kernel
theorem dX6_soundOf_9 : decode cX6_soundOf 9 = .ok (.iadd, 1) := by decide +kernel
theorem dX6_soundOf_10 : decode cX6_soundOf 10 = .ok (.istore 4, 2) := by decide +kernel
theorem dX6_soundOf_12 : decode cX6_soundOf 12 = .ok (.aload_n 0, 1) := by decide +kernel
theorem dX6_soundOf_13 : decode cX6_soundOf 13 = .ok (.getfield 9, 3) := by decide +kernel
theorem dX6_soundOf_16 : decode cX6_soundOf 16 = .ok (.iload 4, 2) := by decide +kernel
theorem dX6_soundOf_18 : decode cX6_soundOf 18 = .ok (.iaload, 1) := by decide +kernel
theorem dX6_soundOf_19 : decode cX6_soundOf 19 = .ok (.iconst (-1), 1) := by decide +kernel
theorem dX6_soundOf_20 : decode cX6_soundOf 20 = .ok (.if_icmp .ne 85, 3) := by decide +kernel
theorem dX6_soundOf_23 : decode cX6_soundOf 23 = .ok (.bipush 10, 2) := by decide +kernel
theorem dX6_soundOf_25 : decode cX6_soundOf 25 = .ok (.iload_n 1, 1) := by decide +kernel
theorem dX6_soundOf_26 : decode cX6_soundOf 26 = .ok (.imul, 1) := by decide +kernel
theorem dX6_soundOf_27 : decode cX6_soundOf 27 = .ok (.iload_n 3, 1) := by decide +kernel
theorem dX6_soundOf_28 : decode cX6_soundOf 28 = .ok (.ifCond .eq 7, 3) := by decide +kernel
theorem dX6_soundOf_31 : decode cX6_soundOf 31 = .ok (.iconst 1, 1) := by decide +kernel
theorem dX6_soundOf_32 : decode cX6_soundOf 32 = .ok (.goto 4, 3) := by decide +kernel
theorem dX6_soundOf_35 : decode cX6_soundOf 35 = .ok (.iconst 0, 1) := by decide +kernel
theorem dX6_soundOf_36 : decode cX6_soundOf 36 = .ok (.iadd, 1) := by decide +kernel
theorem dX6_soundOf_37 : decode cX6_soundOf 37 = .ok (.istore 5, 2) := by decide +kernel
theorem dX6_soundOf_39 : decode cX6_soundOf 39 = .ok (.aload_n 0, 1) := by decide +kernel
theorem dX6_soundOf_40 : decode cX6_soundOf 40 = .ok (.getfield 27, 3) := by decide +kernel
theorem dX6_soundOf_43 : decode cX6_soundOf 43 = .ok (.getfield 41, 3) := by decide +kernel
theorem dX6_soundOf_46 : decode cX6_soundOf 46 = .ok (.iconst 0, 1) := by decide +kernel
theorem dX6_soundOf_47 : decode cX6_soundOf 47 = .ok (.invokevirtual 47, 3) := by decide +kernel
theorem dX6_soundOf_50 : decode cX6_soundOf 50 = .ok (.ifCond .eq 37, 3) := by decide +kernel
theorem dX6_soundOf_53 : decode cX6_soundOf 53 = .ok (.aload_n 0, 1) := by decide +kernel
theorem dX6_soundOf_54 : decode cX6_soundOf 54 = .ok (.iload_n 2, 1) := by decide +kernel
theorem dX6_soundOf_55 : decode cX6_soundOf 55 = .ok (.iload_n 3, 1) := by decide +kernel
theorem dX6_soundOf_56 : decode cX6_soundOf 56 = .ok (.invokevirtual 53, 3) := by decide +kernel
theorem dX6_soundOf_59 : decode cX6_soundOf 59 = .ok (.aload_n 0, 1) := by decide +kernel
theorem dX6_soundOf_60 : decode cX6_soundOf 60 = .ok (.getfield 21, 3) := by decide +kernel
theorem dX6_soundOf_63 : decode cX6_soundOf 63 = .ok (.iconst 2, 1) := by decide +kernel
theorem dX6_soundOf_64 : decode cX6_soundOf 64 = .ok (.iload_n 1, 1) := by decide +kernel
theorem dX6_soundOf_65 : decode cX6_soundOf 65 = .ok (.iastore, 1) := by decide +kernel
theorem dX6_soundOf_66 : decode cX6_soundOf 66 = .ok (.aload_n 0, 1) := by decide +kernel
theorem dX6_soundOf_67 : decode cX6_soundOf 67 = .ok (.getfield 27, 3) := by decide +kernel
theorem dX6_soundOf_70 : decode cX6_soundOf 70 = .ok (.getfield 41, 3) := by decide +kernel
theorem dX6_soundOf_73 : decode cX6_soundOf 73 = .ok (.iconst 0, 1) := by decide +kernel
theorem dX6_soundOf_74 : decode cX6_soundOf 74 = .ok (.aload_n 0, 1) := by decide +kernel
theorem dX6_soundOf_75 : decode cX6_soundOf 75 = .ok (.getfield 21, 3) := by decide +kernel
theorem dX6_soundOf_78 : decode cX6_soundOf 78 = .ok (.aload_n 0, 1) := by decide +kernel
theorem dX6_soundOf_79 : decode cX6_soundOf 79 = .ok (.getfield 24, 3) := by decide +kernel
theorem dX6_soundOf_82 : decode cX6_soundOf 82 = .ok (.invokevirtual 57, 3) := by decide +kernel
theorem dX6_soundOf_85 : decode cX6_soundOf 85 = .ok (.istore 5, 2) := by decide +kernel
theorem dX6_soundOf_87 : decode cX6_soundOf 87 = .ok (.aload_n 0, 1) := by decide +kernel
theorem dX6_soundOf_88 : decode cX6_soundOf 88 = .ok (.getfield 9, 3) := by decide +kernel
theorem dX6_soundOf_91 : decode cX6_soundOf 91 = .ok (.iload 4, 2) := by decide +kernel
theorem dX6_soundOf_93 : decode cX6_soundOf 93 = .ok (.iconst 0, 1) := by decide +kernel
theorem dX6_soundOf_94 : decode cX6_soundOf 94 = .ok (.bipush 99, 2) := by decide +kernel
theorem dX6_soundOf_96 : decode cX6_soundOf 96 = .ok (.iload 5, 2) := by decide +kernel
theorem dX6_soundOf_98 : decode cX6_soundOf 98 = .ok (.invokestatic 61, 3) := by decide +kernel
theorem dX6_soundOf_101 : decode cX6_soundOf 101 = .ok (.invokestatic 67, 3) := by decide +kernel
theorem dX6_soundOf_104 : decode cX6_soundOf 104 = .ok (.iastore, 1) := by decide +kernel
theorem dX6_soundOf_105 : decode cX6_soundOf 105 = .ok (.aload_n 0, 1) := by decide +kernel
theorem dX6_soundOf_106 : decode cX6_soundOf 106 = .ok (.getfield 9, 3) := by decide +kernel
theorem dX6_soundOf_109 : decode cX6_soundOf 109 = .ok (.iload 4, 2) := by decide +kernel
theorem dX6_soundOf_111 : decode cX6_soundOf 111 = .ok (.iaload, 1) := by decide +kernel
theorem dX6_soundOf_112 : decode cX6_soundOf 112 = .ok (.ireturn, 1) := by decide +kernel
theorem dX6_openCurrents_0 : decode cX6_openCurrents 0 = .ok (.iload_n 1, 1) := by decide +kernel
theorem dX6_openCurrents_1 : decode cX6_openCurrents 1 = .ok (.iload_n 2, 1) := by decide +kernel
theorem dX6_openCurrents_2 : decode cX6_openCurrents 2 = .ok (.invokestatic 37, 3) := by decide +kernel
theorem dX6_openCurrents_5 : decode cX6_openCurrents 5 = .ok (.istore_n 3, 1) := by decide +kernel
theorem dX6_openCurrents_6 : decode cX6_openCurrents 6 = .ok (.aload_n 0, 1) := by decide +kernel
theorem dX6_openCurrents_7 : decode cX6_openCurrents 7 = .ok (.getfield 15, 3) := by decide +kernel
theorem dX6_openCurrents_10 : decode cX6_openCurrents 10 = .ok (.iload_n 3, 1) := by decide +kernel
theorem dX6_openCurrents_11 : decode cX6_openCurrents 11 = .ok (.iaload, 1) := by decide +kernel
theorem dX6_openCurrents_12 : decode cX6_openCurrents 12 = .ok (.iconst (-1), 1) := by decide +kernel
theorem dX6_openCurrents_13 : decode cX6_openCurrents 13 = .ok (.if_icmp .ne 155, 3) := by decide +kernel
theorem dX6_openCurrents_16 : decode cX6_openCurrents 16 = .ok (.iconst 1, 1) := by decide +kernel
theorem dX6_openCurrents_17 : decode cX6_openCurrents 17 = .ok (.aload_n 0, 1) := by decide +kernel
theorem dX6_openCurrents_18 : decode cX6_openCurrents 18 = .ok (.getfield 27, 3) := by decide +kernel
theorem dX6_openCurrents_21 : decode cX6_openCurrents 21 = .ok (.getfield 70, 3) := by decide +kernel
theorem dX6_openCurrents_24 : decode cX6_openCurrents 24 = .ok (.ishl, 1) := by decide +kernel
theorem dX6_openCurrents_25 : decode cX6_openCurrents 25 = .ok (.iconst 1, 1) := by decide +kernel
theorem dX6_openCurrents_26 : decode cX6_openCurrents 26 = .ok (.isub, 1) := by decide +kernel
theorem dX6_openCurrents_27 : decode cX6_openCurrents 27 = .ok (.istore 4, 2) := by decide +kernel
theorem dX6_openCurrents_29 : decode cX6_openCurrents 29 = .ok (.iload_n 2, 1) := by decide +kernel
theorem dX6_openCurrents_30 : decode cX6_openCurrents 30 = .ok (.ifCond .eq 7, 3) := by decide +kernel
theorem dX6_openCurrents_33 : decode cX6_openCurrents 33 = .ok (.iconst 0, 1) := by decide +kernel
theorem dX6_openCurrents_34 : decode cX6_openCurrents 34 = .ok (.goto 5, 3) := by decide +kernel
theorem dX6_openCurrents_37 : decode cX6_openCurrents 37 = .ok (.iload 4, 2) := by decide +kernel
theorem dX6_openCurrents_39 : decode cX6_openCurrents 39 = .ok (.istore 5, 2) := by decide +kernel
theorem dX6_openCurrents_41 : decode cX6_openCurrents 41 = .ok (.aload_n 0, 1) := by decide +kernel
theorem dX6_openCurrents_42 : decode cX6_openCurrents 42 = .ok (.getfield 27, 3) := by decide +kernel
theorem dX6_openCurrents_45 : decode cX6_openCurrents 45 = .ok (.getfield 41, 3) := by decide +kernel
theorem dX6_openCurrents_48 : decode cX6_openCurrents 48 = .ok (.iconst 1, 1) := by decide +kernel
theorem dX6_openCurrents_49 : decode cX6_openCurrents 49 = .ok (.invokevirtual 47, 3) := by decide +kernel
theorem dX6_openCurrents_52 : decode cX6_openCurrents 52 = .ok (.ifCond .eq 108, 3) := by decide +kernel
theorem dX6_openCurrents_55 : decode cX6_openCurrents 55 = .ok (.aload_n 0, 1) := by decide +kernel
theorem dX6_openCurrents_56 : decode cX6_openCurrents 56 = .ok (.iload_n 1, 1) := by decide +kernel
theorem dX6_openCurrents_57 : decode cX6_openCurrents 57 = .ok (.iload_n 2, 1) := by decide +kernel
theorem dX6_openCurrents_58 : decode cX6_openCurrents 58 = .ok (.invokevirtual 53, 3) := by decide +kernel
theorem dX6_openCurrents_61 : decode cX6_openCurrents 61 = .ok (.iconst 0, 1) := by decide +kernel
theorem dX6_openCurrents_62 : decode cX6_openCurrents 62 = .ok (.istore 5, 2) := by decide +kernel
theorem dX6_openCurrents_64 : decode cX6_openCurrents 64 = .ok (.iconst 0, 1) := by decide +kernel
theorem dX6_openCurrents_65 : decode cX6_openCurrents 65 = .ok (.istore 6, 2) := by decide +kernel
theorem dX6_openCurrents_67 : decode cX6_openCurrents 67 = .ok (.iload 6, 2) := by decide +kernel
theorem dX6_openCurrents_69 : decode cX6_openCurrents 69 = .ok (.aload_n 0, 1) := by decide +kernel
theorem dX6_openCurrents_70 : decode cX6_openCurrents 70 = .ok (.getfield 27, 3) := by decide +kernel
theorem dX6_openCurrents_73 : decode cX6_openCurrents 73 = .ok (.getfield 70, 3) := by decide +kernel
theorem dX6_openCurrents_76 : decode cX6_openCurrents 76 = .ok (.if_icmp .ge 84, 3) := by decide +kernel
theorem dX6_openCurrents_79 : decode cX6_openCurrents 79 = .ok (.aload_n 0, 1) := by decide +kernel
theorem dX6_openCurrents_80 : decode cX6_openCurrents 80 = .ok (.getfield 21, 3) := by decide +kernel
theorem dX6_openCurrents_83 : decode cX6_openCurrents 83 = .ok (.iconst 2, 1) := by decide +kernel
theorem dX6_openCurrents_84 : decode cX6_openCurrents 84 = .ok (.aload_n 0, 1) := by decide +kernel
theorem dX6_openCurrents_85 : decode cX6_openCurrents 85 = .ok (.getfield 27, 3) := by decide +kernel
theorem dX6_openCurrents_88 : decode cX6_openCurrents 88 = .ok (.getfield 74, 3) := by decide +kernel
theorem dX6_openCurrents_91 : decode cX6_openCurrents 91 = .ok (.iload 6, 2) := by decide +kernel
theorem dX6_openCurrents_93 : decode cX6_openCurrents 93 = .ok (.iaload, 1) := by decide +kernel
theorem dX6_openCurrents_94 : decode cX6_openCurrents 94 = .ok (.iastore, 1) := by decide +kernel
theorem dX6_openCurrents_95 : decode cX6_openCurrents 95 = .ok (.aload_n 0, 1) := by decide +kernel
theorem dX6_openCurrents_96 : decode cX6_openCurrents 96 = .ok (.getfield 21, 3) := by decide +kernel
theorem dX6_openCurrents_99 : decode cX6_openCurrents 99 = .ok (.iconst 3, 1) := by decide +kernel
theorem dX6_openCurrents_100 : decode cX6_openCurrents 100 = .ok (.aload_n 0, 1) := by decide +kernel
theorem dX6_openCurrents_101 : decode cX6_openCurrents 101 = .ok (.getfield 27, 3) := by decide +kernel
theorem dX6_openCurrents_104 : decode cX6_openCurrents 104 = .ok (.getfield 77, 3) := by decide +kernel
theorem dX6_openCurrents_107 : decode cX6_openCurrents 107 = .ok (.iload 6, 2) := by decide +kernel
theorem dX6_openCurrents_109 : decode cX6_openCurrents 109 = .ok (.iaload, 1) := by decide +kernel
theorem dX6_openCurrents_110 : decode cX6_openCurrents 110 = .ok (.iastore, 1) := by decide +kernel
theorem dX6_openCurrents_111 : decode cX6_openCurrents 111 = .ok (.aload_n 0, 1) := by decide +kernel
theorem dX6_openCurrents_112 : decode cX6_openCurrents 112 = .ok (.getfield 21, 3) := by decide +kernel
theorem dX6_openCurrents_115 : decode cX6_openCurrents 115 = .ok (.iconst 4, 1) := by decide +kernel
theorem dX6_openCurrents_116 : decode cX6_openCurrents 116 = .ok (.aload_n 0, 1) := by decide +kernel
theorem dX6_openCurrents_117 : decode cX6_openCurrents 117 = .ok (.getfield 27, 3) := by decide +kernel
theorem dX6_openCurrents_120 : decode cX6_openCurrents 120 = .ok (.getfield 80, 3) := by decide +kernel
theorem dX6_openCurrents_123 : decode cX6_openCurrents 123 = .ok (.iload 6, 2) := by decide +kernel
theorem dX6_openCurrents_125 : decode cX6_openCurrents 125 = .ok (.iaload, 1) := by decide +kernel
theorem dX6_openCurrents_126 : decode cX6_openCurrents 126 = .ok (.iastore, 1) := by decide +kernel
theorem dX6_openCurrents_127 : decode cX6_openCurrents 127 = .ok (.iload 5, 2) := by decide +kernel
theorem dX6_openCurrents_129 : decode cX6_openCurrents 129 = .ok (.aload_n 0, 1) := by decide +kernel
theorem dX6_openCurrents_130 : decode cX6_openCurrents 130 = .ok (.getfield 27, 3) := by decide +kernel
theorem dX6_openCurrents_133 : decode cX6_openCurrents 133 = .ok (.getfield 41, 3) := by decide +kernel
theorem dX6_openCurrents_136 : decode cX6_openCurrents 136 = .ok (.iconst 1, 1) := by decide +kernel
theorem dX6_openCurrents_137 : decode cX6_openCurrents 137 = .ok (.aload_n 0, 1) := by decide +kernel
theorem dX6_openCurrents_138 : decode cX6_openCurrents 138 = .ok (.getfield 21, 3) := by decide +kernel
theorem dX6_openCurrents_141 : decode cX6_openCurrents 141 = .ok (.aload_n 0, 1) := by decide +kernel
theorem dX6_openCurrents_142 : decode cX6_openCurrents 142 = .ok (.getfield 24, 3) := by decide +kernel
theorem dX6_openCurrents_145 : decode cX6_openCurrents 145 = .ok (.invokevirtual 57, 3) := by decide +kernel
theorem dX6_openCurrents_148 : decode cX6_openCurrents 148 = .ok (.iload 6, 2) := by decide +kernel
theorem dX6_openCurrents_150 : decode cX6_openCurrents 150 = .ok (.ishl, 1) := by decide +kernel
theorem dX6_openCurrents_151 : decode cX6_openCurrents 151 = .ok (.ior, 1) := by decide +kernel
theorem dX6_openCurrents_152 : decode cX6_openCurrents 152 = .ok (.istore 5, 2) := by decide +kernel
theorem dX6_openCurrents_154 : decode cX6_openCurrents 154 = .ok (.iinc 6 1, 3) := by decide +kernel
theorem dX6_openCurrents_157 : decode cX6_openCurrents 157 = .ok (.goto (-90), 3) := by decide +kernel
theorem dX6_openCurrents_160 : decode cX6_openCurrents 160 = .ok (.aload_n 0, 1) := by decide +kernel
theorem dX6_openCurrents_161 : decode cX6_openCurrents 161 = .ok (.getfield 15, 3) := by decide +kernel
theorem dX6_openCurrents_164 : decode cX6_openCurrents 164 = .ok (.iload_n 3, 1) := by decide +kernel
theorem dX6_openCurrents_165 : decode cX6_openCurrents 165 = .ok (.iload 5, 2) := by decide +kernel
theorem dX6_openCurrents_167 : decode cX6_openCurrents 167 = .ok (.iastore, 1) := by decide +kernel
theorem dX6_openCurrents_168 : decode cX6_openCurrents 168 = .ok (.aload_n 0, 1) := by decide +kernel
theorem dX6_openCurrents_169 : decode cX6_openCurrents 169 = .ok (.getfield 15, 3) := by decide +kernel
theorem dX6_openCurrents_172 : decode cX6_openCurrents 172 = .ok (.iload_n 3, 1) := by decide +kernel
theorem dX6_openCurrents_173 : decode cX6_openCurrents 173 = .ok (.iaload, 1) := by decide +kernel
theorem dX6_openCurrents_174 : decode cX6_openCurrents 174 = .ok (.ireturn, 1) := by decide +kernel
theorem dX6_listeners_0 : decode cX6_listeners 0 = .ok (.iload_n 1, 1) := by decide +kernel
theorem dX6_listeners_1 : decode cX6_listeners 1 = .ok (.iload_n 2, 1) := by decide +kernel
theorem dX6_listeners_2 : decode cX6_listeners 2 = .ok (.invokestatic 37, 3) := by decide +kernel
theorem dX6_listeners_5 : decode cX6_listeners 5 = .ok (.bipush 9, 2) := by decide +kernel
theorem dX6_listeners_7 : decode cX6_listeners 7 = .ok (.imul, 1) := by decide +kernel
theorem dX6_listeners_8 : decode cX6_listeners 8 = .ok (.iload_n 3, 1) := by decide +kernel
theorem dX6_listeners_9 : decode cX6_listeners 9 = .ok (.iadd, 1) := by decide +kernel
theorem dX6_listeners_10 : decode cX6_listeners 10 = .ok (.istore 4, 2) := by decide +kernel
theorem dX6_listeners_12 : decode cX6_listeners 12 = .ok (.aload_n 0, 1) := by decide +kernel
theorem dX6_listeners_13 : decode cX6_listeners 13 = .ok (.getfield 18, 3) := by decide +kernel
theorem dX6_listeners_16 : decode cX6_listeners 16 = .ok (.iload 4, 2) := by decide +kernel
theorem dX6_listeners_18 : decode cX6_listeners 18 = .ok (.iaload, 1) := by decide +kernel
theorem dX6_listeners_19 : decode cX6_listeners 19 = .ok (.iconst (-1), 1) := by decide +kernel
theorem dX6_listeners_20 : decode cX6_listeners 20 = .ok (.if_icmp .ne 156, 3) := by decide +kernel
theorem dX6_listeners_23 : decode cX6_listeners 23 = .ok (.iconst 1, 1) := by decide +kernel
theorem dX6_listeners_24 : decode cX6_listeners 24 = .ok (.aload_n 0, 1) := by decide +kernel
theorem dX6_listeners_25 : decode cX6_listeners 25 = .ok (.getfield 27, 3) := by decide +kernel
theorem dX6_listeners_28 : decode cX6_listeners 28 = .ok (.getfield 83, 3) := by decide +kernel
theorem dX6_listeners_31 : decode cX6_listeners 31 = .ok (.ishl, 1) := by decide +kernel
theorem dX6_listeners_32 : decode cX6_listeners 32 = .ok (.iconst 1, 1) := by decide +kernel
theorem dX6_listeners_33 : decode cX6_listeners 33 = .ok (.isub, 1) := by decide +kernel
theorem dX6_listeners_34 : decode cX6_listeners 34 = .ok (.istore 5, 2) := by decide +kernel
theorem dX6_listeners_36 : decode cX6_listeners 36 = .ok (.aload_n 0, 1) := by decide +kernel
theorem dX6_listeners_37 : decode cX6_listeners 37 = .ok (.getfield 27, 3) := by decide +kernel
theorem dX6_listeners_40 : decode cX6_listeners 40 = .ok (.getfield 41, 3) := by decide +kernel
theorem dX6_listeners_43 : decode cX6_listeners 43 = .ok (.iconst 2, 1) := by decide +kernel
theorem dX6_listeners_44 : decode cX6_listeners 44 = .ok (.invokevirtual 47, 3) := by decide +kernel
theorem dX6_listeners_47 : decode cX6_listeners 47 = .ok (.ifCond .eq 110, 3) := by decide +kernel
theorem dX6_listeners_50 : decode cX6_listeners 50 = .ok (.aload_n 0, 1) := by decide +kernel
theorem dX6_listeners_51 : decode cX6_listeners 51 = .ok (.iload_n 1, 1) := by decide +kernel
theorem dX6_listeners_52 : decode cX6_listeners 52 = .ok (.iload_n 2, 1) := by decide +kernel
theorem dX6_listeners_53 : decode cX6_listeners 53 = .ok (.invokevirtual 53, 3) := by decide +kernel
theorem dX6_listeners_56 : decode cX6_listeners 56 = .ok (.aload_n 0, 1) := by decide +kernel
theorem dX6_listeners_57 : decode cX6_listeners 57 = .ok (.getfield 21, 3) := by decide +kernel
theorem dX6_listeners_60 : decode cX6_listeners 60 = .ok (.iconst 4, 1) := by decide +kernel
theorem dX6_listeners_61 : decode cX6_listeners 61 = .ok (.iload_n 3, 1) := by decide +kernel
theorem dX6_listeners_62 : decode cX6_listeners 62 = .ok (.iastore, 1) := by decide +kernel
theorem dX6_listeners_63 : decode cX6_listeners 63 = .ok (.iconst 0, 1) := by decide +kernel
theorem dX6_listeners_64 : decode cX6_listeners 64 = .ok (.istore 5, 2) := by decide +kernel
theorem dX6_listeners_66 : decode cX6_listeners 66 = .ok (.iconst 0, 1) := by decide +kernel
theorem dX6_listeners_67 : decode cX6_listeners 67 = .ok (.istore 6, 2) := by decide +kernel
theorem dX6_listeners_69 : decode cX6_listeners 69 = .ok (.iload 6, 2) := by decide +kernel
theorem dX6_listeners_71 : decode cX6_listeners 71 = .ok (.aload_n 0, 1) := by decide +kernel
theorem dX6_listeners_72 : decode cX6_listeners 72 = .ok (.getfield 27, 3) := by decide +kernel
theorem dX6_listeners_75 : decode cX6_listeners 75 = .ok (.getfield 83, 3) := by decide +kernel
theorem dX6_listeners_78 : decode cX6_listeners 78 = .ok (.if_icmp .ge 79, 3) := by decide +kernel
theorem dX6_listeners_81 : decode cX6_listeners 81 = .ok (.aload_n 0, 1) := by decide +kernel
theorem dX6_listeners_82 : decode cX6_listeners 82 = .ok (.getfield 21, 3) := by decide +kernel
theorem dX6_listeners_85 : decode cX6_listeners 85 = .ok (.iconst 2, 1) := by decide +kernel
theorem dX6_listeners_86 : decode cX6_listeners 86 = .ok (.iload 6, 2) := by decide +kernel
theorem dX6_listeners_88 : decode cX6_listeners 88 = .ok (.iastore, 1) := by decide +kernel
theorem dX6_listeners_89 : decode cX6_listeners 89 = .ok (.aload_n 0, 1) := by decide +kernel
theorem dX6_listeners_90 : decode cX6_listeners 90 = .ok (.getfield 21, 3) := by decide +kernel
theorem dX6_listeners_93 : decode cX6_listeners 93 = .ok (.iconst 3, 1) := by decide +kernel
theorem dX6_listeners_94 : decode cX6_listeners 94 = .ok (.aload_n 0, 1) := by decide +kernel
theorem dX6_listeners_95 : decode cX6_listeners 95 = .ok (.getfield 27, 3) := by decide +kernel
theorem dX6_listeners_98 : decode cX6_listeners 98 = .ok (.getfield 86, 3) := by decide +kernel
theorem dX6_listeners_101 : decode cX6_listeners 101 = .ok (.iload 6, 2) := by decide +kernel
theorem dX6_listeners_103 : decode cX6_listeners 103 = .ok (.iaload, 1) := by decide +kernel
theorem dX6_listeners_104 : decode cX6_listeners 104 = .ok (.iconst (-1), 1) := by decide +kernel
theorem dX6_listeners_105 : decode cX6_listeners 105 = .ok (.if_icmp .ne 8, 3) := by decide +kernel
theorem dX6_listeners_108 : decode cX6_listeners 108 = .ok (.bipush 6, 2) := by decide +kernel
theorem dX6_listeners_110 : decode cX6_listeners 110 = .ok (.goto 13, 3) := by decide +kernel
theorem dX6_listeners_113 : decode cX6_listeners 113 = .ok (.aload_n 0, 1) := by decide +kernel
theorem dX6_listeners_114 : decode cX6_listeners 114 = .ok (.getfield 27, 3) := by decide +kernel
theorem dX6_listeners_117 : decode cX6_listeners 117 = .ok (.getfield 86, 3) := by decide +kernel
theorem dX6_listeners_120 : decode cX6_listeners 120 = .ok (.iload 6, 2) := by decide +kernel
theorem dX6_listeners_122 : decode cX6_listeners 122 = .ok (.iaload, 1) := by decide +kernel
theorem dX6_listeners_123 : decode cX6_listeners 123 = .ok (.iastore, 1) := by decide +kernel
theorem dX6_listeners_124 : decode cX6_listeners 124 = .ok (.iload 5, 2) := by decide +kernel
theorem dX6_listeners_126 : decode cX6_listeners 126 = .ok (.aload_n 0, 1) := by decide +kernel
theorem dX6_listeners_127 : decode cX6_listeners 127 = .ok (.getfield 27, 3) := by decide +kernel
theorem dX6_listeners_130 : decode cX6_listeners 130 = .ok (.getfield 41, 3) := by decide +kernel
theorem dX6_listeners_133 : decode cX6_listeners 133 = .ok (.iconst 2, 1) := by decide +kernel
theorem dX6_listeners_134 : decode cX6_listeners 134 = .ok (.aload_n 0, 1) := by decide +kernel
theorem dX6_listeners_135 : decode cX6_listeners 135 = .ok (.getfield 21, 3) := by decide +kernel
theorem dX6_listeners_138 : decode cX6_listeners 138 = .ok (.aload_n 0, 1) := by decide +kernel
theorem dX6_listeners_139 : decode cX6_listeners 139 = .ok (.getfield 24, 3) := by decide +kernel
theorem dX6_listeners_142 : decode cX6_listeners 142 = .ok (.invokevirtual 57, 3) := by decide +kernel
theorem dX6_listeners_145 : decode cX6_listeners 145 = .ok (.iload 6, 2) := by decide +kernel
theorem dX6_listeners_147 : decode cX6_listeners 147 = .ok (.ishl, 1) := by decide +kernel
theorem dX6_listeners_148 : decode cX6_listeners 148 = .ok (.ior, 1) := by decide +kernel
theorem dX6_listeners_149 : decode cX6_listeners 149 = .ok (.istore 5, 2) := by decide +kernel
theorem dX6_listeners_151 : decode cX6_listeners 151 = .ok (.iinc 6 1, 3) := by decide +kernel
theorem dX6_listeners_154 : decode cX6_listeners 154 = .ok (.goto (-85), 3) := by decide +kernel
theorem dX6_listeners_157 : decode cX6_listeners 157 = .ok (.aload_n 0, 1) := by decide +kernel
theorem dX6_listeners_158 : decode cX6_listeners 158 = .ok (.getfield 18, 3) := by decide +kernel
theorem dX6_listeners_161 : decode cX6_listeners 161 = .ok (.iload 4, 2) := by decide +kernel
theorem dX6_listeners_163 : decode cX6_listeners 163 = .ok (.iload 5, 2) := by decide +kernel
theorem dX6_listeners_165 : decode cX6_listeners 165 = .ok (.aload_n 0, 1) := by decide +kernel
theorem dX6_listeners_166 : decode cX6_listeners 166 = .ok (.getfield 27, 3) := by decide +kernel
theorem dX6_listeners_169 : decode cX6_listeners 169 = .ok (.getfield 89, 3) := by decide +kernel
theorem dX6_listeners_172 : decode cX6_listeners 172 = .ok (.iconst (-1), 1) := by decide +kernel
theorem dX6_listeners_173 : decode cX6_listeners 173 = .ok (.ixor, 1) := by decide +kernel
theorem dX6_listeners_174 : decode cX6_listeners 174 = .ok (.iand, 1) := by decide +kernel
theorem dX6_listeners_175 : decode cX6_listeners 175 = .ok (.iastore, 1) := by decide +kernel
theorem dX6_listeners_176 : decode cX6_listeners 176 = .ok (.aload_n 0, 1) := by decide +kernel
theorem dX6_listeners_177 : decode cX6_listeners 177 = .ok (.getfield 18, 3) := by decide +kernel
theorem dX6_listeners_180 : decode cX6_listeners 180 = .ok (.iload 4, 2) := by decide +kernel
theorem dX6_listeners_182 : decode cX6_listeners 182 = .ok (.iaload, 1) := by decide +kernel
theorem dX6_listeners_183 : decode cX6_listeners 183 = .ok (.ireturn, 1) := by decide +kernel
theorem dX6_slotOf_0 : decode cX6_slotOf 0 = .ok (.iload_n 0, 1) := by decide +kernel
theorem dX6_slotOf_1 : decode cX6_slotOf 1 = .ok (.bipush 24, 2) := by decide +kernel
theorem dX6_slotOf_3 : decode cX6_slotOf 3 = .ok (.invokestatic 92, 3) := by decide +kernel
theorem dX6_slotOf_6 : decode cX6_slotOf 6 = .ok (.iconst 2, 1) := by decide +kernel
theorem dX6_slotOf_7 : decode cX6_slotOf 7 = .ok (.imul, 1) := by decide +kernel
theorem dX6_slotOf_8 : decode cX6_slotOf 8 = .ok (.iload_n 1, 1) := by decide +kernel
theorem dX6_slotOf_9 : decode cX6_slotOf 9 = .ok (.ifCond .eq 7, 3) := by decide +kernel
theorem dX6_slotOf_12 : decode cX6_slotOf 12 = .ok (.iconst 1, 1) := by decide +kernel
theorem dX6_slotOf_13 : decode cX6_slotOf 13 = .ok (.goto 4, 3) := by decide +kernel
theorem dX6_slotOf_16 : decode cX6_slotOf 16 = .ok (.iconst 0, 1) := by decide +kernel
theorem dX6_slotOf_17 : decode cX6_slotOf 17 = .ok (.iadd, 1) := by decide +kernel
theorem dX6_slotOf_18 : decode cX6_slotOf 18 = .ok (.ireturn, 1) := by decide +kernel
theorem dX6_giveTime_0 : decode cX6_giveTime 0 = .ok (.aload_n 0, 1) := by decide +kernel
theorem dX6_giveTime_1 : decode cX6_giveTime 1 = .ok (.getfield 21, 3) := by decide +kernel
theorem dX6_giveTime_4 : decode cX6_giveTime 4 = .ok (.iconst 0, 1) := by decide +kernel
theorem dX6_giveTime_5 : decode cX6_giveTime 5 = .ok (.iload_n 1, 1) := by decide +kernel
theorem dX6_giveTime_6 : decode cX6_giveTime 6 = .ok (.bipush 24, 2) := by decide +kernel
theorem dX6_giveTime_8 : decode cX6_giveTime 8 = .ok (.invokestatic 92, 3) := by decide +kernel
theorem dX6_giveTime_11 : decode cX6_giveTime 11 = .ok (.iastore, 1) := by decide +kernel
theorem dX6_giveTime_12 : decode cX6_giveTime 12 = .ok (.aload_n 0, 1) := by decide +kernel
theorem dX6_giveTime_13 : decode cX6_giveTime 13 = .ok (.getfield 21, 3) := by decide +kernel
theorem dX6_giveTime_16 : decode cX6_giveTime 16 = .ok (.iconst 1, 1) := by decide +kernel
theorem dX6_giveTime_17 : decode cX6_giveTime 17 = .ok (.iload_n 2, 1) := by decide +kernel
theorem dX6_giveTime_18 : decode cX6_giveTime 18 = .ok (.ifCond .eq 7, 3) := by decide +kernel
theorem dX6_giveTime_21 : decode cX6_giveTime 21 = .ok (.iconst 1, 1) := by decide +kernel
theorem dX6_giveTime_22 : decode cX6_giveTime 22 = .ok (.goto 4, 3) := by decide +kernel
theorem dX6_giveTime_25 : decode cX6_giveTime 25 = .ok (.iconst 0, 1) := by decide +kernel
theorem dX6_giveTime_26 : decode cX6_giveTime 26 = .ok (.iastore, 1) := by decide +kernel
theorem dX6_giveTime_27 : decode cX6_giveTime 27 = .ok (.return_, 1) := by decide +kernel
theorem dX7_init_0 : decode cX7_init 0 = .ok (.aload_n 0, 1) := by decide +kernel
theorem dX7_init_1 : decode cX7_init 1 = .ok (.invokespecial 3, 3) := by decide +kernel
theorem dX7_init_4 : decode cX7_init 4 = .ok (.aload_n 0, 1) := by decide +kernel
theorem dX7_init_5 : decode cX7_init 5 = .ok (.iconst 1, 1) := by decide +kernel
theorem dX7_init_6 : decode cX7_init 6 = .ok (.putfield 9, 3) := by decide +kernel
theorem dX7_init_9 : decode cX7_init 9 = .ok (.aload_n 0, 1) := by decide +kernel
theorem dX7_init_10 : decode cX7_init 10 = .ok (.bipush 10, 2) := by decide +kernel
theorem dX7_init_12 : decode cX7_init 12 = .ok (.newarray .int, 2) := by decide +kernel
theorem dX7_init_14 : decode cX7_init 14 = .ok (.putfield 15, 3) := by decide +kernel
theorem dX7_init_17 : decode cX7_init 17 = .ok (.aload_n 0, 1) := by decide +kernel
theorem dX7_init_18 : decode cX7_init 18 = .ok (.bipush 10, 2) := by decide +kernel
theorem dX7_init_20 : decode cX7_init 20 = .ok (.newarray .int, 2) := by decide +kernel
theorem dX7_init_22 : decode cX7_init 22 = .ok (.putfield 19, 3) := by decide +kernel
theorem dX7_init_25 : decode cX7_init 25 = .ok (.aload_n 0, 1) := by decide +kernel
theorem dX7_init_26 : decode cX7_init 26 = .ok (.bipush 10, 2) := by decide +kernel
theorem dX7_init_28 : decode cX7_init 28 = .ok (.newarray .int, 2) := by decide +kernel
theorem dX7_init_30 : decode cX7_init 30 = .ok (.putfield 22, 3) := by decide +kernel
theorem dX7_init_33 : decode cX7_init 33 = .ok (.aload_n 0, 1) := by decide +kernel
theorem dX7_init_34 : decode cX7_init 34 = .ok (.bipush 6, 2) := by decide +kernel
theorem dX7_init_36 : decode cX7_init 36 = .ok (.newarray .int, 2) := by decide +kernel
theorem dX7_init_38 : decode cX7_init 38 = .ok (.putfield 25, 3) := by decide +kernel
theorem dX7_init_41 : decode cX7_init 41 = .ok (.aload_n 0, 1) := by decide +kernel
theorem dX7_init_42 : decode cX7_init 42 = .ok (.bipush 8, 2) := by decide +kernel
theorem dX7_init_44 : decode cX7_init 44 = .ok (.newarray .int, 2) := by decide +kernel
theorem dX7_init_46 : decode cX7_init 46 = .ok (.putfield 28, 3) := by decide +kernel
theorem dX7_init_49 : decode cX7_init 49 = .ok (.aload_n 0, 1) := by decide +kernel
theorem dX7_init_50 : decode cX7_init 50 = .ok (.bipush 8, 2) := by decide +kernel
theorem dX7_init_52 : decode cX7_init 52 = .ok (.newarray .int, 2) := by decide +kernel
theorem dX7_init_54 : decode cX7_init 54 = .ok (.putfield 31, 3) := by decide +kernel
theorem dX7_init_57 : decode cX7_init 57 = .ok (.aload_n 0, 1) := by decide +kernel
theorem dX7_init_58 : decode cX7_init 58 = .ok (.new 34, 3) := by decide +kernel
theorem dX7_init_61 : decode cX7_init 61 = .ok (.dup, 1) := by decide +kernel
theorem dX7_init_62 : decode cX7_init 62 = .ok (.invokespecial 36, 3) := by decide +kernel
theorem dX7_init_65 : decode cX7_init 65 = .ok (.putfield 37, 3) := by decide +kernel
theorem dX7_init_68 : decode cX7_init 68 = .ok (.return_, 1) := by decide +kernel
theorem dX7_clear_0 : decode cX7_clear 0 = .ok (.aload_n 0, 1) := by decide +kernel
theorem dX7_clear_1 : decode cX7_clear 1 = .ok (.iconst 1, 1) := by decide +kernel
theorem dX7_clear_2 : decode cX7_clear 2 = .ok (.putfield 9, 3) := by decide +kernel
theorem dX7_clear_5 : decode cX7_clear 5 = .ok (.aload_n 0, 1) := by decide +kernel
theorem dX7_clear_6 : decode cX7_clear 6 = .ok (.iconst 0, 1) := by decide +kernel
theorem dX7_clear_7 : decode cX7_clear 7 = .ok (.putfield 41, 3) := by decide +kernel
theorem dX7_clear_10 : decode cX7_clear 10 = .ok (.aload_n 0, 1) := by decide +kernel
theorem dX7_clear_11 : decode cX7_clear 11 = .ok (.iconst 0, 1) := by decide +kernel
theorem dX7_clear_12 : decode cX7_clear 12 = .ok (.putfield 44, 3) := by decide +kernel
theorem dX7_clear_15 : decode cX7_clear 15 = .ok (.aload_n 0, 1) := by decide +kernel
theorem dX7_clear_16 : decode cX7_clear 16 = .ok (.iconst 0, 1) := by decide +kernel
theorem dX7_clear_17 : decode cX7_clear 17 = .ok (.putfield 47, 3) := by decide +kernel
theorem dX7_clear_20 : decode cX7_clear 20 = .ok (.aload_n 0, 1) := by decide +kernel
theorem dX7_clear_21 : decode cX7_clear 21 = .ok (.iconst 0, 1) := by decide +kernel
theorem dX7_clear_22 : decode cX7_clear 22 = .ok (.putfield 50, 3) := by decide +kernel
theorem dX7_clear_25 : decode cX7_clear 25 = .ok (.aload_n 0, 1) := by decide +kernel
theorem dX7_clear_26 : decode cX7_clear 26 = .ok (.iconst 0, 1) := by decide +kernel
theorem dX7_clear_27 : decode cX7_clear 27 = .ok (.putfield 53, 3) := by decide +kernel
theorem dX7_clear_30 : decode cX7_clear 30 = .ok (.aload_n 0, 1) := by decide +kernel
theorem dX7_clear_31 : decode cX7_clear 31 = .ok (.iconst 0, 1) := by decide +kernel
theorem dX7_clear_32 : decode cX7_clear 32 = .ok (.putfield 56, 3) := by decide +kernel
theorem dX7_clear_35 : decode cX7_clear 35 = .ok (.aload_n 0, 1) := by decide +kernel
theorem dX7_clear_36 : decode cX7_clear 36 = .ok (.iconst 0, 1) := by decide +kernel
theorem dX7_clear_37 : decode cX7_clear 37 = .ok (.putfield 59, 3) := by decide +kernel
theorem dX7_clear_40 : decode cX7_clear 40 = .ok (.aload_n 0, 1) := by decide +kernel
theorem dX7_clear_41 : decode cX7_clear 41 = .ok (.getfield 37, 3) := by decide +kernel
theorem dX7_clear_44 : decode cX7_clear 44 = .ok (.invokevirtual 62, 3) := by decide +kernel
theorem dX7_clear_47 : decode cX7_clear 47 = .ok (.return_, 1) := by decide +kernel
theorem dX7_copyFrom_0 : decode cX7_copyFrom 0 = .ok (.aload_n 0, 1) := by decide +kernel
theorem dX7_copyFrom_1 : decode cX7_copyFrom 1 = .ok (.aload_n 1, 1) := by decide +kernel
theorem dX7_copyFrom_2 : decode cX7_copyFrom 2 = .ok (.getfield 9, 3) := by decide +kernel
theorem dX7_copyFrom_5 : decode cX7_copyFrom 5 = .ok (.putfield 9, 3) := by decide +kernel
theorem dX7_copyFrom_8 : decode cX7_copyFrom 8 = .ok (.aload_n 0, 1) := by decide +kernel
theorem dX7_copyFrom_9 : decode cX7_copyFrom 9 = .ok (.aload_n 1, 1) := by decide +kernel
theorem dX7_copyFrom_10 : decode cX7_copyFrom 10 = .ok (.getfield 41, 3) := by decide +kernel
theorem dX7_copyFrom_13 : decode cX7_copyFrom 13 = .ok (.putfield 41, 3) := by decide +kernel
theorem dX7_copyFrom_16 : decode cX7_copyFrom 16 = .ok (.aload_n 0, 1) := by decide +kernel
theorem dX7_copyFrom_17 : decode cX7_copyFrom 17 = .ok (.aload_n 1, 1) := by decide +kernel
theorem dX7_copyFrom_18 : decode cX7_copyFrom 18 = .ok (.getfield 44, 3) := by decide +kernel
theorem dX7_copyFrom_21 : decode cX7_copyFrom 21 = .ok (.putfield 44, 3) := by decide +kernel
theorem dX7_copyFrom_24 : decode cX7_copyFrom 24 = .ok (.aload_n 0, 1) := by decide +kernel
theorem dX7_copyFrom_25 : decode cX7_copyFrom 25 = .ok (.aload_n 1, 1) := by decide +kernel
theorem dX7_copyFrom_26 : decode cX7_copyFrom 26 = .ok (.getfield 47, 3) := by decide +kernel
theorem dX7_copyFrom_29 : decode cX7_copyFrom 29 = .ok (.putfield 47, 3) := by decide +kernel
theorem dX7_copyFrom_32 : decode cX7_copyFrom 32 = .ok (.aload_n 0, 1) := by decide +kernel
theorem dX7_copyFrom_33 : decode cX7_copyFrom 33 = .ok (.aload_n 1, 1) := by decide +kernel
theorem dX7_copyFrom_34 : decode cX7_copyFrom 34 = .ok (.getfield 50, 3) := by decide +kernel
theorem dX7_copyFrom_37 : decode cX7_copyFrom 37 = .ok (.putfield 50, 3) := by decide +kernel
theorem dX7_copyFrom_40 : decode cX7_copyFrom 40 = .ok (.aload_n 0, 1) := by decide +kernel
theorem dX7_copyFrom_41 : decode cX7_copyFrom 41 = .ok (.aload_n 1, 1) := by decide +kernel
theorem dX7_copyFrom_42 : decode cX7_copyFrom 42 = .ok (.getfield 53, 3) := by decide +kernel
theorem dX7_copyFrom_45 : decode cX7_copyFrom 45 = .ok (.putfield 53, 3) := by decide +kernel
theorem dX7_copyFrom_48 : decode cX7_copyFrom 48 = .ok (.aload_n 0, 1) := by decide +kernel
theorem dX7_copyFrom_49 : decode cX7_copyFrom 49 = .ok (.aload_n 1, 1) := by decide +kernel
theorem dX7_copyFrom_50 : decode cX7_copyFrom 50 = .ok (.getfield 56, 3) := by decide +kernel
theorem dX7_copyFrom_53 : decode cX7_copyFrom 53 = .ok (.putfield 56, 3) := by decide +kernel
theorem dX7_copyFrom_56 : decode cX7_copyFrom 56 = .ok (.aload_n 0, 1) := by decide +kernel
theorem dX7_copyFrom_57 : decode cX7_copyFrom 57 = .ok (.aload_n 1, 1) := by decide +kernel
theorem dX7_copyFrom_58 : decode cX7_copyFrom 58 = .ok (.getfield 59, 3) := by decide +kernel
theorem dX7_copyFrom_61 : decode cX7_copyFrom 61 = .ok (.putfield 59, 3) := by decide +kernel
theorem dX7_copyFrom_64 : decode cX7_copyFrom 64 = .ok (.aload_n 1, 1) := by decide +kernel
theorem dX7_copyFrom_65 : decode cX7_copyFrom 65 = .ok (.getfield 15, 3) := by decide +kernel
theorem dX7_copyFrom_68 : decode cX7_copyFrom 68 = .ok (.iconst 0, 1) := by decide +kernel
theorem dX7_copyFrom_69 : decode cX7_copyFrom 69 = .ok (.aload_n 0, 1) := by decide +kernel
theorem dX7_copyFrom_70 : decode cX7_copyFrom 70 = .ok (.getfield 15, 3) := by decide +kernel
theorem dX7_copyFrom_73 : decode cX7_copyFrom 73 = .ok (.iconst 0, 1) := by decide +kernel
theorem dX7_copyFrom_74 : decode cX7_copyFrom 74 = .ok (.bipush 10, 2) := by decide +kernel
theorem dX7_copyFrom_76 : decode cX7_copyFrom 76 = .ok (.invokestatic 65, 3) := by decide +kernel
theorem dX7_copyFrom_79 : decode cX7_copyFrom 79 = .ok (.aload_n 1, 1) := by decide +kernel
theorem dX7_copyFrom_80 : decode cX7_copyFrom 80 = .ok (.getfield 19, 3) := by decide +kernel
theorem dX7_copyFrom_83 : decode cX7_copyFrom 83 = .ok (.iconst 0, 1) := by decide +kernel
theorem dX7_copyFrom_84 : decode cX7_copyFrom 84 = .ok (.aload_n 0, 1) := by decide +kernel
theorem dX7_copyFrom_85 : decode cX7_copyFrom 85 = .ok (.getfield 19, 3) := by decide +kernel
theorem dX7_copyFrom_88 : decode cX7_copyFrom 88 = .ok (.iconst 0, 1) := by decide +kernel
theorem dX7_copyFrom_89 : decode cX7_copyFrom 89 = .ok (.bipush 10, 2) := by decide +kernel
theorem dX7_copyFrom_91 : decode cX7_copyFrom 91 = .ok (.invokestatic 65, 3) := by decide +kernel
theorem dX7_copyFrom_94 : decode cX7_copyFrom 94 = .ok (.aload_n 1, 1) := by decide +kernel
theorem dX7_copyFrom_95 : decode cX7_copyFrom 95 = .ok (.getfield 22, 3) := by decide +kernel
theorem dX7_copyFrom_98 : decode cX7_copyFrom 98 = .ok (.iconst 0, 1) := by decide +kernel
theorem dX7_copyFrom_99 : decode cX7_copyFrom 99 = .ok (.aload_n 0, 1) := by decide +kernel
theorem dX7_copyFrom_100 : decode cX7_copyFrom 100 = .ok (.getfield 22, 3) := by decide +kernel
theorem dX7_copyFrom_103 : decode cX7_copyFrom 103 = .ok (.iconst 0, 1) := by decide +kernel
theorem dX7_copyFrom_104 : decode cX7_copyFrom 104 = .ok (.bipush 10, 2) := by decide +kernel
theorem dX7_copyFrom_106 : decode cX7_copyFrom 106 = .ok (.invokestatic 65, 3) := by decide +kernel
theorem dX7_copyFrom_109 : decode cX7_copyFrom 109 = .ok (.aload_n 1, 1) := by decide +kernel
theorem dX7_copyFrom_110 : decode cX7_copyFrom 110 = .ok (.getfield 25, 3) := by decide +kernel
theorem dX7_copyFrom_113 : decode cX7_copyFrom 113 = .ok (.iconst 0, 1) := by decide +kernel
theorem dX7_copyFrom_114 : decode cX7_copyFrom 114 = .ok (.aload_n 0, 1) := by decide +kernel
theorem dX7_copyFrom_115 : decode cX7_copyFrom 115 = .ok (.getfield 25, 3) := by decide +kernel
theorem dX7_copyFrom_118 : decode cX7_copyFrom 118 = .ok (.iconst 0, 1) := by decide +kernel
theorem dX7_copyFrom_119 : decode cX7_copyFrom 119 = .ok (.bipush 6, 2) := by decide +kernel
theorem dX7_copyFrom_121 : decode cX7_copyFrom 121 = .ok (.invokestatic 65, 3) := by decide +kernel
theorem dX7_copyFrom_124 : decode cX7_copyFrom 124 = .ok (.aload_n 1, 1) := by decide +kernel
theorem dX7_copyFrom_125 : decode cX7_copyFrom 125 = .ok (.getfield 28, 3) := by decide +kernel
theorem dX7_copyFrom_128 : decode cX7_copyFrom 128 = .ok (.iconst 0, 1) := by decide +kernel
theorem dX7_copyFrom_129 : decode cX7_copyFrom 129 = .ok (.aload_n 0, 1) := by decide +kernel
theorem dX7_copyFrom_130 : decode cX7_copyFrom 130 = .ok (.getfield 28, 3) := by decide +kernel
theorem dX7_copyFrom_133 : decode cX7_copyFrom 133 = .ok (.iconst 0, 1) := by decide +kernel
theorem dX7_copyFrom_134 : decode cX7_copyFrom 134 = .ok (.bipush 8, 2) := by decide +kernel
theorem dX7_copyFrom_136 : decode cX7_copyFrom 136 = .ok (.invokestatic 65, 3) := by decide +kernel
theorem dX7_copyFrom_139 : decode cX7_copyFrom 139 = .ok (.aload_n 1, 1) := by decide +kernel
theorem dX7_copyFrom_140 : decode cX7_copyFrom 140 = .ok (.getfield 31, 3) := by decide +kernel
theorem dX7_copyFrom_143 : decode cX7_copyFrom 143 = .ok (.iconst 0, 1) := by decide +kernel
theorem dX7_copyFrom_144 : decode cX7_copyFrom 144 = .ok (.aload_n 0, 1) := by decide +kernel
theorem dX7_copyFrom_145 : decode cX7_copyFrom 145 = .ok (.getfield 31, 3) := by decide +kernel
theorem dX7_copyFrom_148 : decode cX7_copyFrom 148 = .ok (.iconst 0, 1) := by decide +kernel
theorem dX7_copyFrom_149 : decode cX7_copyFrom 149 = .ok (.bipush 8, 2) := by decide +kernel
theorem dX7_copyFrom_151 : decode cX7_copyFrom 151 = .ok (.invokestatic 65, 3) := by decide +kernel
theorem dX7_copyFrom_154 : decode cX7_copyFrom 154 = .ok (.aload_n 0, 1) := by decide +kernel
theorem dX7_copyFrom_155 : decode cX7_copyFrom 155 = .ok (.getfield 37, 3) := by decide +kernel
theorem dX7_copyFrom_158 : decode cX7_copyFrom 158 = .ok (.aload_n 1, 1) := by decide +kernel
theorem dX7_copyFrom_159 : decode cX7_copyFrom 159 = .ok (.getfield 37, 3) := by decide +kernel
theorem dX7_copyFrom_162 : decode cX7_copyFrom 162 = .ok (.invokevirtual 71, 3) := by decide +kernel
theorem dX7_copyFrom_165 : decode cX7_copyFrom 165 = .ok (.return_, 1) := by decide +kernel
theorem dX8_init_0 : decode cX8_init 0 = .ok (.aload_n 0, 1) := by decide +kernel
theorem dX8_init_1 : decode cX8_init 1 = .ok (.invokespecial 3, 3) := by decide +kernel
theorem dX8_init_4 : decode cX8_init 4 = .ok (.aload_n 0, 1) := by decide +kernel
theorem dX8_init_5 : decode cX8_init 5 = .ok (.bipush 8, 2) := by decide +kernel
theorem dX8_init_7 : decode cX8_init 7 = .ok (.newarray .int, 2) := by decide +kernel
theorem dX8_init_9 : decode cX8_init 9 = .ok (.putfield 9, 3) := by decide +kernel
theorem dX8_init_12 : decode cX8_init 12 = .ok (.aload_n 0, 1) := by decide +kernel
theorem dX8_init_13 : decode cX8_init 13 = .ok (.bipush 8, 2) := by decide +kernel
theorem dX8_init_15 : decode cX8_init 15 = .ok (.newarray .int, 2) := by decide +kernel
theorem dX8_init_17 : decode cX8_init 17 = .ok (.putfield 15, 3) := by decide +kernel
theorem dX8_init_20 : decode cX8_init 20 = .ok (.aload_n 0, 1) := by decide +kernel
theorem dX8_init_21 : decode cX8_init 21 = .ok (.bipush 8, 2) := by decide +kernel
theorem dX8_init_23 : decode cX8_init 23 = .ok (.newarray .int, 2) := by decide +kernel
theorem dX8_init_25 : decode cX8_init 25 = .ok (.putfield 18, 3) := by decide +kernel
theorem dX8_init_28 : decode cX8_init 28 = .ok (.aload_n 0, 1) := by decide +kernel
theorem dX8_init_29 : decode cX8_init 29 = .ok (.bipush 8, 2) := by decide +kernel
theorem dX8_init_31 : decode cX8_init 31 = .ok (.newarray .int, 2) := by decide +kernel
theorem dX8_init_33 : decode cX8_init 33 = .ok (.putfield 21, 3) := by decide +kernel
theorem dX8_init_36 : decode cX8_init 36 = .ok (.aload_n 0, 1) := by decide +kernel
theorem dX8_init_37 : decode cX8_init 37 = .ok (.bipush 80, 2) := by decide +kernel
theorem dX8_init_39 : decode cX8_init 39 = .ok (.newarray .int, 2) := by decide +kernel
theorem dX8_init_41 : decode cX8_init 41 = .ok (.putfield 24, 3) := by decide +kernel
theorem dX8_init_44 : decode cX8_init 44 = .ok (.aload_n 0, 1) := by decide +kernel
theorem dX8_init_45 : decode cX8_init 45 = .ok (.bipush 6, 2) := by decide +kernel
theorem dX8_init_47 : decode cX8_init 47 = .ok (.newarray .int, 2) := by decide +kernel
theorem dX8_init_49 : decode cX8_init 49 = .ok (.putfield 27, 3) := by decide +kernel
theorem dX8_init_52 : decode cX8_init 52 = .ok (.return_, 1) := by decide +kernel
theorem dX8_begin_0 : decode cX8_begin 0 = .ok (.aload_n 0, 1) := by decide +kernel
theorem dX8_begin_1 : decode cX8_begin 1 = .ok (.aload_n 1, 1) := by decide +kernel
theorem dX8_begin_2 : decode cX8_begin 2 = .ok (.getfield 30, 3) := by decide +kernel
theorem dX8_begin_5 : decode cX8_begin 5 = .ok (.putfield 36, 3) := by decide +kernel
theorem dX8_begin_8 : decode cX8_begin 8 = .ok (.aload_n 0, 1) := by decide +kernel
theorem dX8_begin_9 : decode cX8_begin 9 = .ok (.aload_n 1, 1) := by decide +kernel
theorem dX8_begin_10 : decode cX8_begin 10 = .ok (.getfield 39, 3) := by decide +kernel
theorem dX8_begin_13 : decode cX8_begin 13 = .ok (.putfield 42, 3) := by decide +kernel
theorem dX8_begin_16 : decode cX8_begin 16 = .ok (.aload_n 0, 1) := by decide +kernel
theorem dX8_begin_17 : decode cX8_begin 17 = .ok (.iconst 0, 1) := by decide +kernel
theorem dX8_begin_18 : decode cX8_begin 18 = .ok (.putfield 45, 3) := by decide +kernel
theorem dX8_begin_21 : decode cX8_begin 21 = .ok (.aload_n 0, 1) := by decide +kernel
theorem dX8_begin_22 : decode cX8_begin 22 = .ok (.iconst 0, 1) := by decide +kernel
theorem dX8_begin_23 : decode cX8_begin 23 = .ok (.putfield 48, 3) := by decide +kernel
theorem dX8_begin_26 : decode cX8_begin 26 = .ok (.aload_n 1, 1) := by decide +kernel
theorem dX8_begin_27 : decode cX8_begin 27 = .ok (.getfield 51, 3) := by decide +kernel
theorem dX8_begin_30 : decode cX8_begin 30 = .ok (.iconst 0, 1) := by decide +kernel
theorem dX8_begin_31 : decode cX8_begin 31 = .ok (.aload_n 0, 1) := by decide +kernel
theorem dX8_begin_32 : decode cX8_begin 32 = .ok (.getfield 9, 3) := by decide +kernel
theorem dX8_begin_35 : decode cX8_begin 35 = .ok (.iconst 0, 1) := by decide +kernel
theorem dX8_begin_36 : decode cX8_begin 36 = .ok (.bipush 8, 2) := by decide +kernel
theorem dX8_begin_38 : decode cX8_begin 38 = .ok (.invokestatic 54, 3) := by decide +kernel
theorem dX8_begin_41 : decode cX8_begin 41 = .ok (.aload_n 0, 1) := by decide +kernel
theorem dX8_begin_42 : decode cX8_begin 42 = .ok (.getfield 27, 3) := by decide +kernel
theorem dX8_begin_45 : decode cX8_begin 45 = .ok (.iconst 0, 1) := by decide +kernel
theorem dX8_begin_46 : decode cX8_begin 46 = .ok (.invokestatic 60, 3) := by decide +kernel
theorem dX8_begin_49 : decode cX8_begin 49 = .ok (.return_, 1) := by decide +kernel
theorem dX8_copyFrom_0 : decode cX8_copyFrom 0 = .ok (.aload_n 0, 1) := by decide +kernel
theorem dX8_copyFrom_1 : decode cX8_copyFrom 1 = .ok (.aload_n 1, 1) := by decide +kernel
theorem dX8_copyFrom_2 : decode cX8_copyFrom 2 = .ok (.getfield 36, 3) := by decide +kernel
theorem dX8_copyFrom_5 : decode cX8_copyFrom 5 = .ok (.putfield 36, 3) := by decide +kernel
theorem dX8_copyFrom_8 : decode cX8_copyFrom 8 = .ok (.aload_n 0, 1) := by decide +kernel
theorem dX8_copyFrom_9 : decode cX8_copyFrom 9 = .ok (.aload_n 1, 1) := by decide +kernel
theorem dX8_copyFrom_10 : decode cX8_copyFrom 10 = .ok (.getfield 42, 3) := by decide +kernel
theorem dX8_copyFrom_13 : decode cX8_copyFrom 13 = .ok (.putfield 42, 3) := by decide +kernel
theorem dX8_copyFrom_16 : decode cX8_copyFrom 16 = .ok (.aload_n 0, 1) := by decide +kernel
theorem dX8_copyFrom_17 : decode cX8_copyFrom 17 = .ok (.aload_n 1, 1) := by decide +kernel
theorem dX8_copyFrom_18 : decode cX8_copyFrom 18 = .ok (.getfield 45, 3) := by decide +kernel
theorem dX8_copyFrom_21 : decode cX8_copyFrom 21 = .ok (.putfield 45, 3) := by decide +kernel
theorem dX8_copyFrom_24 : decode cX8_copyFrom 24 = .ok (.aload_n 0, 1) := by decide +kernel
theorem dX8_copyFrom_25 : decode cX8_copyFrom 25 = .ok (.aload_n 1, 1) := by decide +kernel
theorem dX8_copyFrom_26 : decode cX8_copyFrom 26 = .ok (.getfield 48, 3) := by decide +kernel
theorem dX8_copyFrom_29 : decode cX8_copyFrom 29 = .ok (.putfield 48, 3) := by decide +kernel
theorem dX8_copyFrom_32 : decode cX8_copyFrom 32 = .ok (.aload_n 1, 1) := by decide +kernel
theorem dX8_copyFrom_33 : decode cX8_copyFrom 33 = .ok (.getfield 9, 3) := by decide +kernel
theorem dX8_copyFrom_36 : decode cX8_copyFrom 36 = .ok (.iconst 0, 1) := by decide +kernel
theorem dX8_copyFrom_37 : decode cX8_copyFrom 37 = .ok (.aload_n 0, 1) := by decide +kernel
theorem dX8_copyFrom_38 : decode cX8_copyFrom 38 = .ok (.getfield 9, 3) := by decide +kernel
theorem dX8_copyFrom_41 : decode cX8_copyFrom 41 = .ok (.iconst 0, 1) := by decide +kernel
theorem dX8_copyFrom_42 : decode cX8_copyFrom 42 = .ok (.bipush 8, 2) := by decide +kernel
theorem dX8_copyFrom_44 : decode cX8_copyFrom 44 = .ok (.invokestatic 54, 3) := by decide +kernel
theorem dX8_copyFrom_47 : decode cX8_copyFrom 47 = .ok (.aload_n 1, 1) := by decide +kernel
theorem dX8_copyFrom_48 : decode cX8_copyFrom 48 = .ok (.getfield 15, 3) := by decide +kernel
theorem dX8_copyFrom_51 : decode cX8_copyFrom 51 = .ok (.iconst 0, 1) := by decide +kernel
theorem dX8_copyFrom_52 : decode cX8_copyFrom 52 = .ok (.aload_n 0, 1) := by decide +kernel
theorem dX8_copyFrom_53 : decode cX8_copyFrom 53 = .ok (.getfield 15, 3) := by decide +kernel
theorem dX8_copyFrom_56 : decode cX8_copyFrom 56 = .ok (.iconst 0, 1) := by decide +kernel
theorem dX8_copyFrom_57 : decode cX8_copyFrom 57 = .ok (.bipush 8, 2) := by decide +kernel
theorem dX8_copyFrom_59 : decode cX8_copyFrom 59 = .ok (.invokestatic 54, 3) := by decide +kernel
theorem dX8_copyFrom_62 : decode cX8_copyFrom 62 = .ok (.aload_n 1, 1) := by decide +kernel
theorem dX8_copyFrom_63 : decode cX8_copyFrom 63 = .ok (.getfield 18, 3) := by decide +kernel
theorem dX8_copyFrom_66 : decode cX8_copyFrom 66 = .ok (.iconst 0, 1) := by decide +kernel
theorem dX8_copyFrom_67 : decode cX8_copyFrom 67 = .ok (.aload_n 0, 1) := by decide +kernel
theorem dX8_copyFrom_68 : decode cX8_copyFrom 68 = .ok (.getfield 18, 3) := by decide +kernel
theorem dX8_copyFrom_71 : decode cX8_copyFrom 71 = .ok (.iconst 0, 1) := by decide +kernel
theorem dX8_copyFrom_72 : decode cX8_copyFrom 72 = .ok (.bipush 8, 2) := by decide +kernel
theorem dX8_copyFrom_74 : decode cX8_copyFrom 74 = .ok (.invokestatic 54, 3) := by decide +kernel
theorem dX8_copyFrom_77 : decode cX8_copyFrom 77 = .ok (.aload_n 1, 1) := by decide +kernel
theorem dX8_copyFrom_78 : decode cX8_copyFrom 78 = .ok (.getfield 21, 3) := by decide +kernel
theorem dX8_copyFrom_81 : decode cX8_copyFrom 81 = .ok (.iconst 0, 1) := by decide +kernel
theorem dX8_copyFrom_82 : decode cX8_copyFrom 82 = .ok (.aload_n 0, 1) := by decide +kernel
theorem dX8_copyFrom_83 : decode cX8_copyFrom 83 = .ok (.getfield 21, 3) := by decide +kernel
theorem dX8_copyFrom_86 : decode cX8_copyFrom 86 = .ok (.iconst 0, 1) := by decide +kernel
theorem dX8_copyFrom_87 : decode cX8_copyFrom 87 = .ok (.bipush 8, 2) := by decide +kernel
theorem dX8_copyFrom_89 : decode cX8_copyFrom 89 = .ok (.invokestatic 54, 3) := by decide +kernel
theorem dX8_copyFrom_92 : decode cX8_copyFrom 92 = .ok (.aload_n 1, 1) := by decide +kernel
theorem dX8_copyFrom_93 : decode cX8_copyFrom 93 = .ok (.getfield 24, 3) := by decide +kernel
theorem dX8_copyFrom_96 : decode cX8_copyFrom 96 = .ok (.iconst 0, 1) := by decide +kernel
theorem dX8_copyFrom_97 : decode cX8_copyFrom 97 = .ok (.aload_n 0, 1) := by decide +kernel
theorem dX8_copyFrom_98 : decode cX8_copyFrom 98 = .ok (.getfield 24, 3) := by decide +kernel
theorem dX8_copyFrom_101 : decode cX8_copyFrom 101 = .ok (.iconst 0, 1) := by decide +kernel
theorem dX8_copyFrom_102 : decode cX8_copyFrom 102 = .ok (.aload_n 0, 1) := by decide +kernel
theorem dX8_copyFrom_103 : decode cX8_copyFrom 103 = .ok (.getfield 48, 3) := by decide +kernel
theorem dX8_copyFrom_106 : decode cX8_copyFrom 106 = .ok (.bipush 10, 2) := by decide +kernel
theorem dX8_copyFrom_108 : decode cX8_copyFrom 108 = .ok (.imul, 1) := by decide +kernel
theorem dX8_copyFrom_109 : decode cX8_copyFrom 109 = .ok (.invokestatic 54, 3) := by decide +kernel
theorem dX8_copyFrom_112 : decode cX8_copyFrom 112 = .ok (.aload_n 1, 1) := by decide +kernel
theorem dX8_copyFrom_113 : decode cX8_copyFrom 113 = .ok (.getfield 27, 3) := by decide +kernel
theorem dX8_copyFrom_116 : decode cX8_copyFrom 116 = .ok (.iconst 0, 1) := by decide +kernel
theorem dX8_copyFrom_117 : decode cX8_copyFrom 117 = .ok (.aload_n 0, 1) := by decide +kernel
theorem dX8_copyFrom_118 : decode cX8_copyFrom 118 = .ok (.getfield 27, 3) := by decide +kernel
theorem dX8_copyFrom_121 : decode cX8_copyFrom 121 = .ok (.iconst 0, 1) := by decide +kernel
theorem dX8_copyFrom_122 : decode cX8_copyFrom 122 = .ok (.bipush 6, 2) := by decide +kernel
theorem dX8_copyFrom_124 : decode cX8_copyFrom 124 = .ok (.invokestatic 54, 3) := by decide +kernel
theorem dX8_copyFrom_127 : decode cX8_copyFrom 127 = .ok (.return_, 1) := by decide +kernel
theorem dX8_passHour_0 : decode cX8_passHour 0 = .ok (.aload_n 0, 1) := by decide +kernel
theorem dX8_passHour_1 : decode cX8_passHour 1 = .ok (.aload_n 1, 1) := by decide +kernel
theorem dX8_passHour_2 : decode cX8_passHour 2 = .ok (.aload_n 2, 1) := by decide +kernel
theorem dX8_passHour_3 : decode cX8_passHour 3 = .ok (.aload_n 0, 1) := by decide +kernel
theorem dX8_passHour_4 : decode cX8_passHour 4 = .ok (.getfield 36, 3) := by decide +kernel
theorem dX8_passHour_7 : decode cX8_passHour 7 = .ok (.aload_n 0, 1) := by decide +kernel
theorem dX8_passHour_8 : decode cX8_passHour 8 = .ok (.getfield 42, 3) := by decide +kernel
theorem dX8_passHour_11 : decode cX8_passHour 11 = .ok (.ifCond .le 7, 3) := by decide +kernel
theorem dX8_passHour_14 : decode cX8_passHour 14 = .ok (.iconst 1, 1) := by decide +kernel
theorem dX8_passHour_15 : decode cX8_passHour 15 = .ok (.goto 4, 3) := by decide +kernel
theorem dX8_passHour_18 : decode cX8_passHour 18 = .ok (.iconst 0, 1) := by decide +kernel
theorem dX8_passHour_19 : decode cX8_passHour 19 = .ok (.invokevirtual 66, 3) := by decide +kernel
theorem dX8_passHour_22 : decode cX8_passHour 22 = .ok (.invokevirtual 72, 3) := by decide +kernel
theorem dX8_passHour_25 : decode cX8_passHour 25 = .ok (.aload_n 0, 1) := by decide +kernel
theorem dX8_passHour_26 : decode cX8_passHour 26 = .ok (.dup, 1) := by decide +kernel
theorem dX8_passHour_27 : decode cX8_passHour 27 = .ok (.getfield 36, 3) := by decide +kernel
theorem dX8_passHour_30 : decode cX8_passHour 30 = .ok (.iconst 1, 1) := by decide +kernel
theorem dX8_passHour_31 : decode cX8_passHour 31 = .ok (.iadd, 1) := by decide +kernel
theorem dX8_passHour_32 : decode cX8_passHour 32 = .ok (.putfield 36, 3) := by decide +kernel
theorem dX8_passHour_35 : decode cX8_passHour 35 = .ok (.aload_n 0, 1) := by decide +kernel
theorem dX8_passHour_36 : decode cX8_passHour 36 = .ok (.iconst 0, 1) := by decide +kernel
theorem dX8_passHour_37 : decode cX8_passHour 37 = .ok (.aload_n 0, 1) := by decide +kernel
theorem dX8_passHour_38 : decode cX8_passHour 38 = .ok (.getfield 42, 3) := by decide +kernel
theorem dX8_passHour_41 : decode cX8_passHour 41 = .ok (.iconst 1, 1) := by decide +kernel
theorem dX8_passHour_42 : decode cX8_passHour 42 = .ok (.isub, 1) := by decide +kernel
theorem dX8_passHour_43 : decode cX8_passHour 43 = .ok (.invokestatic 76, 3) := by decide +kernel
theorem dX8_passHour_46 : decode cX8_passHour 46 = .ok (.putfield 42, 3) := by decide +kernel
theorem dX8_passHour_49 : decode cX8_passHour 49 = .ok (.aload_n 0, 1) := by decide +kernel
theorem dX8_passHour_50 : decode cX8_passHour 50 = .ok (.aload_n 1, 1) := by decide +kernel
theorem dX8_passHour_51 : decode cX8_passHour 51 = .ok (.invokevirtual 82, 3) := by decide +kernel
theorem dX8_passHour_54 : decode cX8_passHour 54 = .ok (.iconst 0, 1) := by decide +kernel
theorem dX8_passHour_55 : decode cX8_passHour 55 = .ok (.istore_n 3, 1) := by decide +kernel
theorem dX8_passHour_56 : decode cX8_passHour 56 = .ok (.iconst 0, 1) := by decide +kernel
theorem dX8_passHour_57 : decode cX8_passHour 57 = .ok (.istore 4, 2) := by decide +kernel
theorem dX8_passHour_59 : decode cX8_passHour 59 = .ok (.iload 4, 2) := by decide +kernel
theorem dX8_passHour_61 : decode cX8_passHour 61 = .ok (.aload_n 1, 1) := by decide +kernel
theorem dX8_passHour_62 : decode cX8_passHour 62 = .ok (.getfield 86, 3) := by decide +kernel
theorem dX8_passHour_65 : decode cX8_passHour 65 = .ok (.if_icmp .ge 98, 3) := by decide +kernel
theorem dX8_passHour_68 : decode cX8_passHour 68 = .ok (.aload_n 0, 1) := by decide +kernel
theorem dX8_passHour_69 : decode cX8_passHour 69 = .ok (.getfield 27, 3) := by decide +kernel
theorem dX8_passHour_72 : decode cX8_passHour 72 = .ok (.iload 4, 2) := by decide +kernel
theorem dX8_passHour_74 : decode cX8_passHour 74 = .ok (.iaload, 1) := by decide +kernel
theorem dX8_passHour_75 : decode cX8_passHour 75 = .ok (.invokestatic 89, 3) := by decide +kernel
theorem dX8_passHour_78 : decode cX8_passHour 78 = .ok (.istore 5, 2) := by decide +kernel
theorem dX8_passHour_80 : decode cX8_passHour 80 = .ok (.iload 5, 2) := by decide +kernel
theorem dX8_passHour_82 : decode cX8_passHour 82 = .ok (.aload_n 0, 1) := by decide +kernel
theorem dX8_passHour_83 : decode cX8_passHour 83 = .ok (.getfield 48, 3) := by decide +kernel
theorem dX8_passHour_86 : decode cX8_passHour 86 = .ok (.if_icmp .ge 71, 3) := by decide +kernel
theorem dX8_passHour_89 : decode cX8_passHour 89 = .ok (.aload_n 2, 1) := by decide +kernel
theorem dX8_passHour_90 : decode cX8_passHour 90 = .ok (.aload_n 0, 1) := by decide +kernel
theorem dX8_passHour_91 : decode cX8_passHour 91 = .ok (.getfield 36, 3) := by decide +kernel
theorem dX8_passHour_94 : decode cX8_passHour 94 = .ok (.aload_n 0, 1) := by decide +kernel
theorem dX8_passHour_95 : decode cX8_passHour 95 = .ok (.getfield 42, 3) := by decide +kernel
theorem dX8_passHour_98 : decode cX8_passHour 98 = .ok (.ifCond .le 7, 3) := by decide +kernel
theorem dX8_passHour_101 : decode cX8_passHour 101 = .ok (.iconst 1, 1) := by decide +kernel
theorem dX8_passHour_102 : decode cX8_passHour 102 = .ok (.goto 4, 3) := by decide +kernel
theorem dX8_passHour_105 : decode cX8_passHour 105 = .ok (.iconst 0, 1) := by decide +kernel
theorem dX8_passHour_106 : decode cX8_passHour 106 = .ok (.iload 5, 2) := by decide +kernel
theorem dX8_passHour_108 : decode cX8_passHour 108 = .ok (.invokevirtual 95, 3) := by decide +kernel
theorem dX8_passHour_111 : decode cX8_passHour 111 = .ok (.iload 4, 2) := by decide +kernel
theorem dX8_passHour_113 : decode cX8_passHour 113 = .ok (.ishr, 1) := by decide +kernel
theorem dX8_passHour_114 : decode cX8_passHour 114 = .ok (.iconst 1, 1) := by decide +kernel
theorem dX8_passHour_115 : decode cX8_passHour 115 = .ok (.iand, 1) := by decide +kernel
theorem dX8_passHour_116 : decode cX8_passHour 116 = .ok (.iconst 1, 1) := by decide +kernel
theorem dX8_passHour_117 : decode cX8_passHour 117 = .ok (.if_icmp .ne 40, 3) := by decide +kernel
theorem dX8_passHour_120 : decode cX8_passHour 120 = .ok (.aload_n 0, 1) := by decide +kernel
theorem dX8_passHour_121 : decode cX8_passHour 121 = .ok (.getfield 27, 3) := by decide +kernel
theorem dX8_passHour_124 : decode cX8_passHour 124 = .ok (.iload 4, 2) := by decide +kernel
theorem dX8_passHour_126 : decode cX8_passHour 126 = .ok (.dup2, 1) := by decide +kernel
theorem dX8_passHour_127 : decode cX8_passHour 127 = .ok (.iaload, 1) := by decide +kernel
theorem dX8_passHour_128 : decode cX8_passHour 128 = .ok (.aload_n 0, 1) := by decide +kernel
theorem dX8_passHour_129 : decode cX8_passHour 129 = .ok (.aload_n 0, 1) := by decide +kernel
theorem dX8_passHour_130 : decode cX8_passHour 130 = .ok (.aload_n 1, 1) := by decide +kernel
theorem dX8_passHour_131 : decode cX8_passHour 131 = .ok (.iload 4, 2) := by decide +kernel
theorem dX8_passHour_133 : decode cX8_passHour 133 = .ok (.invokevirtual 99, 3) := by decide +kernel
theorem dX8_passHour_136 : decode cX8_passHour 136 = .ok (.invokevirtual 103, 3) := by decide +kernel
theorem dX8_passHour_139 : decode cX8_passHour 139 = .ok (.ior, 1) := by decide +kernel
theorem dX8_passHour_140 : decode cX8_passHour 140 = .ok (.iastore, 1) := by decide +kernel
theorem dX8_passHour_141 : decode cX8_passHour 141 = .ok (.iload_n 3, 1) := by decide +kernel
theorem dX8_passHour_142 : decode cX8_passHour 142 = .ok (.aload_n 0, 1) := by decide +kernel
theorem dX8_passHour_143 : decode cX8_passHour 143 = .ok (.getfield 27, 3) := by decide +kernel
theorem dX8_passHour_146 : decode cX8_passHour 146 = .ok (.iload 4, 2) := by decide +kernel
theorem dX8_passHour_148 : decode cX8_passHour 148 = .ok (.iaload, 1) := by decide +kernel
theorem dX8_passHour_149 : decode cX8_passHour 149 = .ok (.invokestatic 89, 3) := by decide +kernel
theorem dX8_passHour_152 : decode cX8_passHour 152 = .ok (.iload 5, 2) := by decide +kernel
theorem dX8_passHour_154 : decode cX8_passHour 154 = .ok (.isub, 1) := by decide +kernel
theorem dX8_passHour_155 : decode cX8_passHour 155 = .ok (.iadd, 1) := by decide +kernel
theorem dX8_passHour_156 : decode cX8_passHour 156 = .ok (.istore_n 3, 1) := by decide +kernel
theorem dX8_passHour_157 : decode cX8_passHour 157 = .ok (.iinc 4 1, 3) := by decide +kernel
theorem dX8_passHour_160 : decode cX8_passHour 160 = .ok (.goto (-101), 3) := by decide +kernel
theorem dX8_passHour_163 : decode cX8_passHour 163 = .ok (.iload_n 3, 1) := by decide +kernel
theorem dX8_passHour_164 : decode cX8_passHour 164 = .ok (.ireturn, 1) := by decide +kernel
theorem dX8_goOut_0 : decode cX8_goOut 0 = .ok (.iconst 0, 1) := by decide +kernel
theorem dX8_goOut_1 : decode cX8_goOut 1 = .ok (.istore_n 3, 1) := by decide +kernel
theorem dX8_goOut_2 : decode cX8_goOut 2 = .ok (.iload_n 3, 1) := by decide +kernel
theorem dX8_goOut_3 : decode cX8_goOut 3 = .ok (.aload_n 0, 1) := by decide +kernel
theorem dX8_goOut_4 : decode cX8_goOut 4 = .ok (.getfield 48, 3) := by decide +kernel
theorem dX8_goOut_7 : decode cX8_goOut 7 = .ok (.if_icmp .ge 115, 3) := by decide +kernel
theorem dX8_goOut_10 : decode cX8_goOut 10 = .ok (.iload_n 2, 1) := by decide +kernel
theorem dX8_goOut_11 : decode cX8_goOut 11 = .ok (.aload_n 0, 1) := by decide +kernel
theorem dX8_goOut_12 : decode cX8_goOut 12 = .ok (.getfield 18, 3) := by decide +kernel
theorem dX8_goOut_15 : decode cX8_goOut 15 = .ok (.iload_n 3, 1) := by decide +kernel
theorem dX8_goOut_16 : decode cX8_goOut 16 = .ok (.iaload, 1) := by decide +kernel
theorem dX8_goOut_17 : decode cX8_goOut 17 = .ok (.iconst (-1), 1) := by decide +kernel
theorem dX8_goOut_18 : decode cX8_goOut 18 = .ok (.ixor, 1) := by decide +kernel
theorem dX8_goOut_19 : decode cX8_goOut 19 = .ok (.iand, 1) := by decide +kernel
theorem dX8_goOut_20 : decode cX8_goOut 20 = .ok (.istore 4, 2) := by decide +kernel
theorem dX8_goOut_22 : decode cX8_goOut 22 = .ok (.iconst 0, 1) := by decide +kernel
theorem dX8_goOut_23 : decode cX8_goOut 23 = .ok (.istore 5, 2) := by decide +kernel
theorem dX8_goOut_25 : decode cX8_goOut 25 = .ok (.iload 5, 2) := by decide +kernel
theorem dX8_goOut_27 : decode cX8_goOut 27 = .ok (.aload_n 1, 1) := by decide +kernel
theorem dX8_goOut_28 : decode cX8_goOut 28 = .ok (.getfield 106, 3) := by decide +kernel
theorem dX8_goOut_31 : decode cX8_goOut 31 = .ok (.if_icmp .ge 85, 3) := by decide +kernel
theorem dX8_goOut_34 : decode cX8_goOut 34 = .ok (.iload 4, 2) := by decide +kernel
theorem dX8_goOut_36 : decode cX8_goOut 36 = .ok (.ifCond .eq 80, 3) := by decide +kernel
theorem dX8_goOut_39 : decode cX8_goOut 39 = .ok (.iload 4, 2) := by decide +kernel
theorem dX8_goOut_41 : decode cX8_goOut 41 = .ok (.iload 5, 2) := by decide +kernel
theorem dX8_goOut_43 : decode cX8_goOut 43 = .ok (.ishr, 1) := by decide +kernel
theorem dX8_goOut_44 : decode cX8_goOut 44 = .ok (.aload_n 0, 1) := by decide +kernel
theorem dX8_goOut_45 : decode cX8_goOut 45 = .ok (.getfield 15, 3) := by decide +kernel
theorem dX8_goOut_48 : decode cX8_goOut 48 = .ok (.iload_n 3, 1) := by decide +kernel
theorem dX8_goOut_49 : decode cX8_goOut 49 = .ok (.iaload, 1) := by decide +kernel
theorem dX8_goOut_50 : decode cX8_goOut 50 = .ok (.aload_n 1, 1) := by decide +kernel
theorem dX8_goOut_51 : decode cX8_goOut 51 = .ok (.getfield 109, 3) := by decide +kernel
theorem dX8_goOut_54 : decode cX8_goOut 54 = .ok (.iload 5, 2) := by decide +kernel
theorem dX8_goOut_56 : decode cX8_goOut 56 = .ok (.iaload, 1) := by decide +kernel
theorem dX8_goOut_57 : decode cX8_goOut 57 = .ok (.ishr, 1) := by decide +kernel
theorem dX8_goOut_58 : decode cX8_goOut 58 = .ok (.iand, 1) := by decide +kernel
theorem dX8_goOut_59 : decode cX8_goOut 59 = .ok (.iconst 1, 1) := by decide +kernel
theorem dX8_goOut_60 : decode cX8_goOut 60 = .ok (.iand, 1) := by decide +kernel
theorem dX8_goOut_61 : decode cX8_goOut 61 = .ok (.iconst 1, 1) := by decide +kernel
theorem dX8_goOut_62 : decode cX8_goOut 62 = .ok (.if_icmp .ne 48, 3) := by decide +kernel
theorem dX8_goOut_65 : decode cX8_goOut 65 = .ok (.aload_n 0, 1) := by decide +kernel
theorem dX8_goOut_66 : decode cX8_goOut 66 = .ok (.getfield 18, 3) := by decide +kernel
theorem dX8_goOut_69 : decode cX8_goOut 69 = .ok (.iload_n 3, 1) := by decide +kernel
theorem dX8_goOut_70 : decode cX8_goOut 70 = .ok (.dup2, 1) := by decide +kernel
theorem dX8_goOut_71 : decode cX8_goOut 71 = .ok (.iaload, 1) := by decide +kernel
theorem dX8_goOut_72 : decode cX8_goOut 72 = .ok (.iconst 1, 1) := by decide +kernel
theorem dX8_goOut_73 : decode cX8_goOut 73 = .ok (.iload 5, 2) := by decide +kernel
theorem dX8_goOut_75 : decode cX8_goOut 75 = .ok (.ishl, 1) := by decide +kernel
theorem dX8_goOut_76 : decode cX8_goOut 76 = .ok (.ior, 1) := by decide +kernel
theorem dX8_goOut_77 : decode cX8_goOut 77 = .ok (.iastore, 1) := by decide +kernel
theorem dX8_goOut_78 : decode cX8_goOut 78 = .ok (.aload_n 0, 1) := by decide +kernel
theorem dX8_goOut_79 : decode cX8_goOut 79 = .ok (.getfield 21, 3) := by decide +kernel
theorem dX8_goOut_82 : decode cX8_goOut 82 = .ok (.iload_n 3, 1) := by decide +kernel
theorem dX8_goOut_83 : decode cX8_goOut 83 = .ok (.dup2, 1) := by decide +kernel
theorem dX8_goOut_84 : decode cX8_goOut 84 = .ok (.iaload, 1) := by decide +kernel
theorem dX8_goOut_85 : decode cX8_goOut 85 = .ok (.iconst 1, 1) := by decide +kernel
theorem dX8_goOut_86 : decode cX8_goOut 86 = .ok (.iload 5, 2) := by decide +kernel
theorem dX8_goOut_88 : decode cX8_goOut 88 = .ok (.ishl, 1) := by decide +kernel
theorem dX8_goOut_89 : decode cX8_goOut 89 = .ok (.ior, 1) := by decide +kernel
theorem dX8_goOut_90 : decode cX8_goOut 90 = .ok (.iastore, 1) := by decide +kernel
theorem dX8_goOut_91 : decode cX8_goOut 91 = .ok (.aload_n 0, 1) := by decide +kernel
theorem dX8_goOut_92 : decode cX8_goOut 92 = .ok (.getfield 24, 3) := by decide +kernel
theorem dX8_goOut_95 : decode cX8_goOut 95 = .ok (.iload_n 3, 1) := by decide +kernel
theorem dX8_goOut_96 : decode cX8_goOut 96 = .ok (.bipush 10, 2) := by decide +kernel
theorem dX8_goOut_98 : decode cX8_goOut 98 = .ok (.imul, 1) := by decide +kernel
theorem dX8_goOut_99 : decode cX8_goOut 99 = .ok (.iload 5, 2) := by decide +kernel
theorem dX8_goOut_101 : decode cX8_goOut 101 = .ok (.iadd, 1) := by decide +kernel
theorem dX8_goOut_102 : decode cX8_goOut 102 = .ok (.aload_n 1, 1) := by decide +kernel
theorem dX8_goOut_103 : decode cX8_goOut 103 = .ok (.getfield 112, 3) := by decide +kernel
theorem dX8_goOut_106 : decode cX8_goOut 106 = .ok (.iload 5, 2) := by decide +kernel
theorem dX8_goOut_108 : decode cX8_goOut 108 = .ok (.iaload, 1) := by decide +kernel
theorem dX8_goOut_109 : decode cX8_goOut 109 = .ok (.iastore, 1) := by decide +kernel
theorem dX8_goOut_110 : decode cX8_goOut 110 = .ok (.iinc 5 1, 3) := by decide +kernel
theorem dX8_goOut_113 : decode cX8_goOut 113 = .ok (.goto (-88), 3) := by decide +kernel
theorem dX8_goOut_116 : decode cX8_goOut 116 = .ok (.iinc 3 1, 3) := by decide +kernel
theorem dX8_goOut_119 : decode cX8_goOut 119 = .ok (.goto (-117), 3) := by decide +kernel
theorem dX8_goOut_122 : decode cX8_goOut 122 = .ok (.return_, 1) := by decide +kernel
theorem dX8_comeIn_0 : decode cX8_comeIn 0 = .ok (.iconst 0, 1) := by decide +kernel
theorem dX8_comeIn_1 : decode cX8_comeIn 1 = .ok (.istore_n 2, 1) := by decide +kernel
theorem dX8_comeIn_2 : decode cX8_comeIn 2 = .ok (.iload_n 2, 1) := by decide +kernel
theorem dX8_comeIn_3 : decode cX8_comeIn 3 = .ok (.aload_n 0, 1) := by decide +kernel
theorem dX8_comeIn_4 : decode cX8_comeIn 4 = .ok (.getfield 48, 3) := by decide +kernel
theorem dX8_comeIn_7 : decode cX8_comeIn 7 = .ok (.if_icmp .ge 106, 3) := by decide +kernel
theorem dX8_comeIn_10 : decode cX8_comeIn 10 = .ok (.iconst 0, 1) := by decide +kernel
theorem dX8_comeIn_11 : decode cX8_comeIn 11 = .ok (.istore_n 3, 1) := by decide +kernel
theorem dX8_comeIn_12 : decode cX8_comeIn 12 = .ok (.iload_n 3, 1) := by decide +kernel
theorem dX8_comeIn_13 : decode cX8_comeIn 13 = .ok (.aload_n 1, 1) := by decide +kernel
theorem dX8_comeIn_14 : decode cX8_comeIn 14 = .ok (.getfield 106, 3) := by decide +kernel
theorem dX8_comeIn_17 : decode cX8_comeIn 17 = .ok (.if_icmp .ge 90, 3) := by decide +kernel
theorem dX8_comeIn_20 : decode cX8_comeIn 20 = .ok (.aload_n 0, 1) := by decide +kernel
theorem dX8_comeIn_21 : decode cX8_comeIn 21 = .ok (.getfield 21, 3) := by decide +kernel
theorem dX8_comeIn_24 : decode cX8_comeIn 24 = .ok (.iload_n 2, 1) := by decide +kernel
theorem dX8_comeIn_25 : decode cX8_comeIn 25 = .ok (.iaload, 1) := by decide +kernel
theorem dX8_comeIn_26 : decode cX8_comeIn 26 = .ok (.ifCond .eq 81, 3) := by decide +kernel
theorem dX8_comeIn_29 : decode cX8_comeIn 29 = .ok (.aload_n 0, 1) := by decide +kernel
theorem dX8_comeIn_30 : decode cX8_comeIn 30 = .ok (.getfield 21, 3) := by decide +kernel
theorem dX8_comeIn_33 : decode cX8_comeIn 33 = .ok (.iload_n 2, 1) := by decide +kernel
theorem dX8_comeIn_34 : decode cX8_comeIn 34 = .ok (.iaload, 1) := by decide +kernel
theorem dX8_comeIn_35 : decode cX8_comeIn 35 = .ok (.iload_n 3, 1) := by decide +kernel
theorem dX8_comeIn_36 : decode cX8_comeIn 36 = .ok (.ishr, 1) := by decide +kernel
theorem dX8_comeIn_37 : decode cX8_comeIn 37 = .ok (.iconst 1, 1) := by decide +kernel
theorem dX8_comeIn_38 : decode cX8_comeIn 38 = .ok (.iand, 1) := by decide +kernel
theorem dX8_comeIn_39 : decode cX8_comeIn 39 = .ok (.iconst 1, 1) := by decide +kernel
theorem dX8_comeIn_40 : decode cX8_comeIn 40 = .ok (.if_icmp .ne 61, 3) := by decide +kernel
theorem dX8_comeIn_43 : decode cX8_comeIn 43 = .ok (.aload_n 0, 1) := by decide +kernel
theorem dX8_comeIn_44 : decode cX8_comeIn 44 = .ok (.getfield 24, 3) := by decide +kernel
theorem dX8_comeIn_47 : decode cX8_comeIn 47 = .ok (.iload_n 2, 1) := by decide +kernel
theorem dX8_comeIn_48 : decode cX8_comeIn 48 = .ok (.bipush 10, 2) := by decide +kernel
theorem dX8_comeIn_50 : decode cX8_comeIn 50 = .ok (.imul, 1) := by decide +kernel
theorem dX8_comeIn_51 : decode cX8_comeIn 51 = .ok (.iload_n 3, 1) := by decide +kernel
theorem dX8_comeIn_52 : decode cX8_comeIn 52 = .ok (.iadd, 1) := by decide +kernel
theorem dX8_comeIn_53 : decode cX8_comeIn 53 = .ok (.dup2, 1) := by decide +kernel
theorem dX8_comeIn_54 : decode cX8_comeIn 54 = .ok (.iaload, 1) := by decide +kernel
theorem dX8_comeIn_55 : decode cX8_comeIn 55 = .ok (.iconst 1, 1) := by decide +kernel
theorem dX8_comeIn_56 : decode cX8_comeIn 56 = .ok (.isub, 1) := by decide +kernel
theorem dX8_comeIn_57 : decode cX8_comeIn 57 = .ok (.iastore, 1) := by decide +kernel
theorem dX8_comeIn_58 : decode cX8_comeIn 58 = .ok (.aload_n 0, 1) := by decide +kernel
theorem dX8_comeIn_59 : decode cX8_comeIn 59 = .ok (.getfield 24, 3) := by decide +kernel
theorem dX8_comeIn_62 : decode cX8_comeIn 62 = .ok (.iload_n 2, 1) := by decide +kernel
theorem dX8_comeIn_63 : decode cX8_comeIn 63 = .ok (.bipush 10, 2) := by decide +kernel
theorem dX8_comeIn_65 : decode cX8_comeIn 65 = .ok (.imul, 1) := by decide +kernel
theorem dX8_comeIn_66 : decode cX8_comeIn 66 = .ok (.iload_n 3, 1) := by decide +kernel
theorem dX8_comeIn_67 : decode cX8_comeIn 67 = .ok (.iadd, 1) := by decide +kernel
theorem dX8_comeIn_68 : decode cX8_comeIn 68 = .ok (.iaload, 1) := by decide +kernel
theorem dX8_comeIn_69 : decode cX8_comeIn 69 = .ok (.ifCond .ne 32, 3) := by decide +kernel
theorem dX8_comeIn_72 : decode cX8_comeIn 72 = .ok (.aload_n 0, 1) := by decide +kernel
theorem dX8_comeIn_73 : decode cX8_comeIn 73 = .ok (.getfield 21, 3) := by decide +kernel
theorem dX8_comeIn_76 : decode cX8_comeIn 76 = .ok (.iload_n 2, 1) := by decide +kernel
theorem dX8_comeIn_77 : decode cX8_comeIn 77 = .ok (.dup2, 1) := by decide +kernel
theorem dX8_comeIn_78 : decode cX8_comeIn 78 = .ok (.iaload, 1) := by decide +kernel
theorem dX8_comeIn_79 : decode cX8_comeIn 79 = .ok (.iconst 1, 1) := by decide +kernel
theorem dX8_comeIn_80 : decode cX8_comeIn 80 = .ok (.iload_n 3, 1) := by decide +kernel
theorem dX8_comeIn_81 : decode cX8_comeIn 81 = .ok (.ishl, 1) := by decide +kernel
theorem dX8_comeIn_82 : decode cX8_comeIn 82 = .ok (.ixor, 1) := by decide +kernel
theorem dX8_comeIn_83 : decode cX8_comeIn 83 = .ok (.iastore, 1) := by decide +kernel
theorem dX8_comeIn_84 : decode cX8_comeIn 84 = .ok (.aload_n 0, 1) := by decide +kernel
theorem dX8_comeIn_85 : decode cX8_comeIn 85 = .ok (.getfield 15, 3) := by decide +kernel
theorem dX8_comeIn_88 : decode cX8_comeIn 88 = .ok (.iload_n 2, 1) := by decide +kernel
theorem dX8_comeIn_89 : decode cX8_comeIn 89 = .ok (.dup2, 1) := by decide +kernel
theorem dX8_comeIn_90 : decode cX8_comeIn 90 = .ok (.iaload, 1) := by decide +kernel
theorem dX8_comeIn_91 : decode cX8_comeIn 91 = .ok (.iconst 1, 1) := by decide +kernel
theorem dX8_comeIn_92 : decode cX8_comeIn 92 = .ok (.aload_n 1, 1) := by decide +kernel
theorem dX8_comeIn_93 : decode cX8_comeIn 93 = .ok (.getfield 115, 3) := by decide +kernel
theorem dX8_comeIn_96 : decode cX8_comeIn 96 = .ok (.iload_n 3, 1) := by decide +kernel
theorem dX8_comeIn_97 : decode cX8_comeIn 97 = .ok (.iaload, 1) := by decide +kernel
theorem dX8_comeIn_98 : decode cX8_comeIn 98 = .ok (.ishl, 1) := by decide +kernel
theorem dX8_comeIn_99 : decode cX8_comeIn 99 = .ok (.ior, 1) := by decide +kernel
theorem dX8_comeIn_100 : decode cX8_comeIn 100 = .ok (.iastore, 1) := by decide +kernel
theorem dX8_comeIn_101 : decode cX8_comeIn 101 = .ok (.iinc 3 1, 3) := by decide +kernel
theorem dX8_comeIn_104 : decode cX8_comeIn 104 = .ok (.goto (-92), 3) := by decide +kernel
theorem dX8_comeIn_107 : decode cX8_comeIn 107 = .ok (.iinc 2 1, 3) := by decide +kernel
theorem dX8_comeIn_110 : decode cX8_comeIn 110 = .ok (.goto (-108), 3) := by decide +kernel
theorem dX8_comeIn_113 : decode cX8_comeIn 113 = .ok (.return_, 1) := by decide +kernel
theorem dX8_wordsAt_0 : decode cX8_wordsAt 0 = .ok (.iconst 0, 1) := by decide +kernel
theorem dX8_wordsAt_1 : decode cX8_wordsAt 1 = .ok (.istore_n 2, 1) := by decide +kernel
theorem dX8_wordsAt_2 : decode cX8_wordsAt 2 = .ok (.iconst 0, 1) := by decide +kernel
theorem dX8_wordsAt_3 : decode cX8_wordsAt 3 = .ok (.istore_n 3, 1) := by decide +kernel
theorem dX8_wordsAt_4 : decode cX8_wordsAt 4 = .ok (.iload_n 3, 1) := by decide +kernel
theorem dX8_wordsAt_5 : decode cX8_wordsAt 5 = .ok (.aload_n 0, 1) := by decide +kernel
theorem dX8_wordsAt_6 : decode cX8_wordsAt 6 = .ok (.getfield 48, 3) := by decide +kernel
theorem dX8_wordsAt_9 : decode cX8_wordsAt 9 = .ok (.if_icmp .ge 26, 3) := by decide +kernel
theorem dX8_wordsAt_12 : decode cX8_wordsAt 12 = .ok (.aload_n 0, 1) := by decide +kernel
theorem dX8_wordsAt_13 : decode cX8_wordsAt 13 = .ok (.getfield 15, 3) := by decide +kernel
theorem dX8_wordsAt_16 : decode cX8_wordsAt 16 = .ok (.iload_n 3, 1) := by decide +kernel
theorem dX8_wordsAt_17 : decode cX8_wordsAt 17 = .ok (.iaload, 1) := by decide +kernel
theorem dX8_wordsAt_18 : decode cX8_wordsAt 18 = .ok (.iload_n 1, 1) := by decide +kernel
theorem dX8_wordsAt_19 : decode cX8_wordsAt 19 = .ok (.iand, 1) := by decide +kernel
theorem dX8_wordsAt_20 : decode cX8_wordsAt 20 = .ok (.ifCond .eq 9, 3) := by decide +kernel
theorem dX8_wordsAt_23 : decode cX8_wordsAt 23 = .ok (.iload_n 2, 1) := by decide +kernel
theorem dX8_wordsAt_24 : decode cX8_wordsAt 24 = .ok (.iconst 1, 1) := by decide +kernel
theorem dX8_wordsAt_25 : decode cX8_wordsAt 25 = .ok (.iload_n 3, 1) := by decide +kernel
theorem dX8_wordsAt_26 : decode cX8_wordsAt 26 = .ok (.ishl, 1) := by decide +kernel
theorem dX8_wordsAt_27 : decode cX8_wordsAt 27 = .ok (.ior, 1) := by decide +kernel
theorem dX8_wordsAt_28 : decode cX8_wordsAt 28 = .ok (.istore_n 2, 1) := by decide +kernel
theorem dX8_wordsAt_29 : decode cX8_wordsAt 29 = .ok (.iinc 3 1, 3) := by decide +kernel
theorem dX8_wordsAt_32 : decode cX8_wordsAt 32 = .ok (.goto (-28), 3) := by decide +kernel
theorem dX8_wordsAt_35 : decode cX8_wordsAt 35 = .ok (.iload_n 2, 1) := by decide +kernel
theorem dX8_wordsAt_36 : decode cX8_wordsAt 36 = .ok (.ireturn, 1) := by decide +kernel
theorem dX8_audible_0 : decode cX8_audible 0 = .ok (.aload_n 1, 1) := by decide +kernel
theorem dX8_audible_1 : decode cX8_audible 1 = .ok (.getfield 118, 3) := by decide +kernel
theorem dX8_audible_4 : decode cX8_audible 4 = .ok (.iload_n 2, 1) := by decide +kernel
theorem dX8_audible_5 : decode cX8_audible 5 = .ok (.iaload, 1) := by decide +kernel
theorem dX8_audible_6 : decode cX8_audible 6 = .ok (.iconst (-1), 1) := by decide +kernel
theorem dX8_audible_7 : decode cX8_audible 7 = .ok (.if_icmp .ne 7, 3) := by decide +kernel
theorem dX8_audible_10 : decode cX8_audible 10 = .ok (.iconst 0, 1) := by decide +kernel
theorem dX8_audible_11 : decode cX8_audible 11 = .ok (.goto 11, 3) := by decide +kernel
theorem dX8_audible_14 : decode cX8_audible 14 = .ok (.iconst 1, 1) := by decide +kernel
theorem dX8_audible_15 : decode cX8_audible 15 = .ok (.aload_n 1, 1) := by decide +kernel
theorem dX8_audible_16 : decode cX8_audible 16 = .ok (.getfield 118, 3) := by decide +kernel
theorem dX8_audible_19 : decode cX8_audible 19 = .ok (.iload_n 2, 1) := by decide +kernel
theorem dX8_audible_20 : decode cX8_audible 20 = .ok (.iaload, 1) := by decide +kernel
theorem dX8_audible_21 : decode cX8_audible 21 = .ok (.ishl, 1) := by decide +kernel
theorem dX8_audible_22 : decode cX8_audible 22 = .ok (.istore_n 3, 1) := by decide +kernel
theorem dX8_audible_23 : decode cX8_audible 23 = .ok (.iconst 0, 1) := by decide +kernel
theorem dX8_audible_24 : decode cX8_audible 24 = .ok (.istore 4, 2) := by decide +kernel
theorem dX8_audible_26 : decode cX8_audible 26 = .ok (.iload 4, 2) := by decide +kernel
theorem dX8_audible_28 : decode cX8_audible 28 = .ok (.aload_n 1, 1) := by decide +kernel
theorem dX8_audible_29 : decode cX8_audible 29 = .ok (.getfield 121, 3) := by decide +kernel
theorem dX8_audible_32 : decode cX8_audible 32 = .ok (.if_icmp .ge 32, 3) := by decide +kernel
theorem dX8_audible_35 : decode cX8_audible 35 = .ok (.aload_n 0, 1) := by decide +kernel
theorem dX8_audible_36 : decode cX8_audible 36 = .ok (.getfield 9, 3) := by decide +kernel
theorem dX8_audible_39 : decode cX8_audible 39 = .ok (.iload 4, 2) := by decide +kernel
theorem dX8_audible_41 : decode cX8_audible 41 = .ok (.iaload, 1) := by decide +kernel
theorem dX8_audible_42 : decode cX8_audible 42 = .ok (.iload_n 2, 1) := by decide +kernel
theorem dX8_audible_43 : decode cX8_audible 43 = .ok (.if_icmp .ne 15, 3) := by decide +kernel
theorem dX8_audible_46 : decode cX8_audible 46 = .ok (.iload_n 3, 1) := by decide +kernel
theorem dX8_audible_47 : decode cX8_audible 47 = .ok (.iconst 1, 1) := by decide +kernel
theorem dX8_audible_48 : decode cX8_audible 48 = .ok (.aload_n 1, 1) := by decide +kernel
theorem dX8_audible_49 : decode cX8_audible 49 = .ok (.getfield 124, 3) := by decide +kernel
theorem dX8_audible_52 : decode cX8_audible 52 = .ok (.iload 4, 2) := by decide +kernel
theorem dX8_audible_54 : decode cX8_audible 54 = .ok (.iaload, 1) := by decide +kernel
theorem dX8_audible_55 : decode cX8_audible 55 = .ok (.ishl, 1) := by decide +kernel
theorem dX8_audible_56 : decode cX8_audible 56 = .ok (.ior, 1) := by decide +kernel
theorem dX8_audible_57 : decode cX8_audible 57 = .ok (.istore_n 3, 1) := by decide +kernel
theorem dX8_audible_58 : decode cX8_audible 58 = .ok (.iinc 4 1, 3) := by decide +kernel
theorem dX8_audible_61 : decode cX8_audible 61 = .ok (.goto (-35), 3) := by decide +kernel
theorem dX8_audible_64 : decode cX8_audible 64 = .ok (.iload_n 3, 1) := by decide +kernel
theorem dX8_audible_65 : decode cX8_audible 65 = .ok (.ireturn, 1) := by decide +kernel
theorem dX8_attempt_0 : decode cX8_attempt 0 = .ok (.lload_n 1, 1) := by decide +kernel
theorem dX8_attempt_1 : decode cX8_attempt 1 = .ok (.ldc2_w 127, 3) := by decide +kernel
theorem dX8_attempt_4 : decode cX8_attempt 4 = .ok (.lcmp, 1) := by decide +kernel
theorem dX8_attempt_5 : decode cX8_attempt 5 = .ok (.ifCond .ne 13, 3) := by decide +kernel
theorem dX8_attempt_8 : decode cX8_attempt 8 = .ok (.aload_n 0, 1) := by decide +kernel
theorem dX8_attempt_9 : decode cX8_attempt 9 = .ok (.aload_n 3, 1) := by decide +kernel
theorem dX8_attempt_10 : decode cX8_attempt 10 = .ok (.aload 4, 2) := by decide +kernel
theorem dX8_attempt_12 : decode cX8_attempt 12 = .ok (.invokevirtual 129, 3) := by decide +kernel
theorem dX8_attempt_15 : decode cX8_attempt 15 = .ok (.pop, 1) := by decide +kernel
theorem dX8_attempt_16 : decode cX8_attempt 16 = .ok (.iconst 0, 1) := by decide +kernel
theorem dX8_attempt_17 : decode cX8_attempt 17 = .ok (.ireturn, 1) := by decide +kernel
theorem dX8_attempt_18 : decode cX8_attempt 18 = .ok (.lload_n 1, 1) := by decide +kernel
theorem dX8_attempt_19 : decode cX8_attempt 19 = .ok (.lconst 0, 1) := by decide +kernel
theorem dX8_attempt_20 : decode cX8_attempt 20 = .ok (.lcmp, 1) := by decide +kernel
theorem dX8_attempt_21 : decode cX8_attempt 21 = .ok (.ifCond .lt 11, 3) := by decide +kernel
theorem dX8_attempt_24 : decode cX8_attempt 24 = .ok (.lload_n 1, 1) := by decide +kernel
theorem dX8_attempt_25 : decode cX8_attempt 25 = .ok (.ldc2_w 133, 3) := by decide +kernel
theorem dX8_attempt_28 : decode cX8_attempt 28 = .ok (.lcmp, 1) := by decide +kernel
theorem dX8_attempt_29 : decode cX8_attempt 29 = .ok (.ifCond .lt 5, 3) := by decide +kernel
theorem dX8_attempt_32 : decode cX8_attempt 32 = .ok (.iconst 1, 1) := by decide +kernel
theorem dX8_attempt_33 : decode cX8_attempt 33 = .ok (.ireturn, 1) := by decide +kernel
theorem dX8_attempt_34 : decode cX8_attempt 34 = .ok (.lload_n 1, 1) := by decide +kernel
theorem dX8_attempt_35 : decode cX8_attempt 35 = .ok (.l2i, 1) := by decide +kernel
theorem dX8_attempt_36 : decode cX8_attempt 36 = .ok (.istore 5, 2) := by decide +kernel
theorem dX8_attempt_38 : decode cX8_attempt 38 = .ok (.iload 5, 2) := by decide +kernel
theorem dX8_attempt_40 : decode cX8_attempt 40 = .ok (.bipush 100, 2) := by decide +kernel
theorem dX8_attempt_42 : decode cX8_attempt 42 = .ok (.if_icmp .ge 11, 3) := by decide +kernel
theorem dX8_attempt_45 : decode cX8_attempt 45 = .ok (.aload_n 0, 1) := by decide +kernel
theorem dX8_attempt_46 : decode cX8_attempt 46 = .ok (.iload 5, 2) := by decide +kernel
theorem dX8_attempt_48 : decode cX8_attempt 48 = .ok (.aload_n 3, 1) := by decide +kernel
theorem dX8_attempt_49 : decode cX8_attempt 49 = .ok (.invokevirtual 135, 3) := by decide +kernel
theorem dX8_attempt_52 : decode cX8_attempt 52 = .ok (.ireturn, 1) := by decide +kernel
theorem dX8_attempt_53 : decode cX8_attempt 53 = .ok (.iload 5, 2) := by decide +kernel
theorem dX8_attempt_55 : decode cX8_attempt 55 = .ok (.sipush 900, 3) := by decide +kernel
theorem dX8_attempt_58 : decode cX8_attempt 58 = .ok (.if_icmp .ge 22, 3) := by decide +kernel
theorem dX8_attempt_61 : decode cX8_attempt 61 = .ok (.aload_n 0, 1) := by decide +kernel
theorem dX8_attempt_62 : decode cX8_attempt 62 = .ok (.iload 5, 2) := by decide +kernel
theorem dX8_attempt_64 : decode cX8_attempt 64 = .ok (.bipush 100, 2) := by decide +kernel
theorem dX8_attempt_66 : decode cX8_attempt 66 = .ok (.isub, 1) := by decide +kernel
theorem dX8_attempt_67 : decode cX8_attempt 67 = .ok (.bipush 100, 2) := by decide +kernel
theorem dX8_attempt_69 : decode cX8_attempt 69 = .ok (.idiv, 1) := by decide +kernel
theorem dX8_attempt_70 : decode cX8_attempt 70 = .ok (.iload 5, 2) := by decide +kernel
theorem dX8_attempt_72 : decode cX8_attempt 72 = .ok (.bipush 100, 2) := by decide +kernel
theorem dX8_attempt_74 : decode cX8_attempt 74 = .ok (.irem, 1) := by decide +kernel
theorem dX8_attempt_75 : decode cX8_attempt 75 = .ok (.aload_n 3, 1) := by decide +kernel
theorem dX8_attempt_76 : decode cX8_attempt 76 = .ok (.invokevirtual 139, 3) := by decide +kernel
theorem dX8_attempt_79 : decode cX8_attempt 79 = .ok (.ireturn, 1) := by decide +kernel
theorem dX8_attempt_80 : decode cX8_attempt 80 = .ok (.iload 5, 2) := by decide +kernel
theorem dX8_attempt_82 : decode cX8_attempt 82 = .ok (.sipush 1000, 3) := by decide +kernel
theorem dX8_attempt_85 : decode cX8_attempt 85 = .ok (.if_icmp .lt 23, 3) := by decide +kernel
theorem dX8_attempt_88 : decode cX8_attempt 88 = .ok (.iload 5, 2) := by decide +kernel
theorem dX8_attempt_90 : decode cX8_attempt 90 = .ok (.sipush 1100, 3) := by decide +kernel
theorem dX8_attempt_93 : decode cX8_attempt 93 = .ok (.if_icmp .ge 15, 3) := by decide +kernel
theorem dX8_attempt_96 : decode cX8_attempt 96 = .ok (.aload_n 0, 1) := by decide +kernel
theorem dX8_attempt_97 : decode cX8_attempt 97 = .ok (.iload 5, 2) := by decide +kernel
theorem dX8_attempt_99 : decode cX8_attempt 99 = .ok (.sipush 1000, 3) := by decide +kernel
theorem dX8_attempt_102 : decode cX8_attempt 102 = .ok (.isub, 1) := by decide +kernel
theorem dX8_attempt_103 : decode cX8_attempt 103 = .ok (.aload_n 3, 1) := by decide +kernel
theorem dX8_attempt_104 : decode cX8_attempt 104 = .ok (.invokevirtual 143, 3) := by decide +kernel
theorem dX8_attempt_107 : decode cX8_attempt 107 = .ok (.ireturn, 1) := by decide +kernel
theorem dX8_attempt_108 : decode cX8_attempt 108 = .ok (.iload 5, 2) := by decide +kernel
theorem dX8_attempt_110 : decode cX8_attempt 110 = .ok (.sipush 2000, 3) := by decide +kernel
theorem dX8_attempt_113 : decode cX8_attempt 113 = .ok (.if_icmp .ge 5, 3) := by decide +kernel
theorem dX8_attempt_116 : decode cX8_attempt 116 = .ok (.iconst 1, 1) := by decide +kernel
theorem dX8_attempt_117 : decode cX8_attempt 117 = .ok (.ireturn, 1) := by decide +kernel
theorem dX8_attempt_118 : decode cX8_attempt 118 = .ok (.aload_n 0, 1) := by decide +kernel
theorem dX8_attempt_119 : decode cX8_attempt 119 = .ok (.iload 5, 2) := by decide +kernel
theorem dX8_attempt_121 : decode cX8_attempt 121 = .ok (.sipush 2000, 3) := by decide +kernel
theorem dX8_attempt_124 : decode cX8_attempt 124 = .ok (.isub, 1) := by decide +kernel
theorem dX8_attempt_125 : decode cX8_attempt 125 = .ok (.putfield 42, 3) := by decide +kernel
theorem dX8_attempt_128 : decode cX8_attempt 128 = .ok (.iconst 0, 1) := by decide +kernel
theorem dX8_attempt_129 : decode cX8_attempt 129 = .ok (.ireturn, 1) := by decide +kernel
theorem dX8_whisperAt_0 : decode cX8_whisperAt 0 = .ok (.iload_n 1, 1) := by decide +kernel
theorem dX8_whisperAt_1 : decode cX8_whisperAt 1 = .ok (.aload_n 2, 1) := by decide +kernel
theorem dX8_whisperAt_2 : decode cX8_whisperAt 2 = .ok (.getfield 146, 3) := by decide +kernel
theorem dX8_whisperAt_5 : decode cX8_whisperAt 5 = .ok (.if_icmp .lt 5, 3) := by decide +kernel
theorem dX8_whisperAt_8 : decode cX8_whisperAt 8 = .ok (.iconst 1, 1) := by decide +kernel
theorem dX8_whisperAt_9 : decode cX8_whisperAt 9 = .ok (.ireturn, 1) := by decide +kernel
theorem dX8_whisperAt_10 : decode cX8_whisperAt 10 = .ok (.aload_n 0, 1) := by decide +kernel
theorem dX8_whisperAt_11 : decode cX8_whisperAt 11 = .ok (.getfield 48, 3) := by decide +kernel
theorem dX8_whisperAt_14 : decode cX8_whisperAt 14 = .ok (.bipush 8, 2) := by decide +kernel
theorem dX8_whisperAt_16 : decode cX8_whisperAt 16 = .ok (.if_icmp .lt 5, 3) := by decide +kernel
theorem dX8_whisperAt_19 : decode cX8_whisperAt 19 = .ok (.iconst 2, 1) := by decide +kernel
theorem dX8_whisperAt_20 : decode cX8_whisperAt 20 = .ok (.ireturn, 1) := by decide +kernel
theorem dX8_whisperAt_21 : decode cX8_whisperAt 21 = .ok (.aload_n 0, 1) := by decide +kernel
theorem dX8_whisperAt_22 : decode cX8_whisperAt 22 = .ok (.getfield 15, 3) := by decide +kernel
theorem dX8_whisperAt_25 : decode cX8_whisperAt 25 = .ok (.aload_n 0, 1) := by decide +kernel
theorem dX8_whisperAt_26 : decode cX8_whisperAt 26 = .ok (.getfield 48, 3) := by decide +kernel
theorem dX8_whisperAt_29 : decode cX8_whisperAt 29 = .ok (.iconst 1, 1) := by decide +kernel
theorem dX8_whisperAt_30 : decode cX8_whisperAt 30 = .ok (.iload_n 1, 1) := by decide +kernel
theorem dX8_whisperAt_31 : decode cX8_whisperAt 31 = .ok (.ishl, 1) := by decide +kernel
theorem dX8_whisperAt_32 : decode cX8_whisperAt 32 = .ok (.iastore, 1) := by decide +kernel
theorem dX8_whisperAt_33 : decode cX8_whisperAt 33 = .ok (.aload_n 0, 1) := by decide +kernel
theorem dX8_whisperAt_34 : decode cX8_whisperAt 34 = .ok (.getfield 18, 3) := by decide +kernel
theorem dX8_whisperAt_37 : decode cX8_whisperAt 37 = .ok (.aload_n 0, 1) := by decide +kernel
theorem dX8_whisperAt_38 : decode cX8_whisperAt 38 = .ok (.getfield 48, 3) := by decide +kernel
theorem dX8_whisperAt_41 : decode cX8_whisperAt 41 = .ok (.iconst 0, 1) := by decide +kernel
theorem dX8_whisperAt_42 : decode cX8_whisperAt 42 = .ok (.iastore, 1) := by decide +kernel
theorem dX8_whisperAt_43 : decode cX8_whisperAt 43 = .ok (.aload_n 0, 1) := by decide +kernel
theorem dX8_whisperAt_44 : decode cX8_whisperAt 44 = .ok (.getfield 21, 3) := by decide +kernel
theorem dX8_whisperAt_47 : decode cX8_whisperAt 47 = .ok (.aload_n 0, 1) := by decide +kernel
theorem dX8_whisperAt_48 : decode cX8_whisperAt 48 = .ok (.getfield 48, 3) := by decide +kernel
theorem dX8_whisperAt_51 : decode cX8_whisperAt 51 = .ok (.iconst 0, 1) := by decide +kernel
theorem dX8_whisperAt_52 : decode cX8_whisperAt 52 = .ok (.iastore, 1) := by decide +kernel
theorem dX8_whisperAt_53 : decode cX8_whisperAt 53 = .ok (.aload_n 0, 1) := by decide +kernel
theorem dX8_whisperAt_54 : decode cX8_whisperAt 54 = .ok (.dup, 1) := by decide +kernel
theorem dX8_whisperAt_55 : decode cX8_whisperAt 55 = .ok (.getfield 48, 3) := by decide +kernel
theorem dX8_whisperAt_58 : decode cX8_whisperAt 58 = .ok (.iconst 1, 1) := by decide +kernel
theorem dX8_whisperAt_59 : decode cX8_whisperAt 59 = .ok (.iadd, 1) := by decide +kernel
theorem dX8_whisperAt_60 : decode cX8_whisperAt 60 = .ok (.putfield 48, 3) := by decide +kernel
theorem dX8_whisperAt_63 : decode cX8_whisperAt 63 = .ok (.iconst 0, 1) := by decide +kernel
theorem dX8_whisperAt_64 : decode cX8_whisperAt 64 = .ok (.ireturn, 1) := by decide +kernel
theorem dX8_giveTo_0 : decode cX8_giveTo 0 = .ok (.iload_n 1, 1) := by decide +kernel
theorem dX8_giveTo_1 : decode cX8_giveTo 1 = .ok (.aload_n 3, 1) := by decide +kernel
theorem dX8_giveTo_2 : decode cX8_giveTo 2 = .ok (.getfield 121, 3) := by decide +kernel
theorem dX8_giveTo_5 : decode cX8_giveTo 5 = .ok (.if_icmp .ge 11, 3) := by decide +kernel
theorem dX8_giveTo_8 : decode cX8_giveTo 8 = .ok (.iload_n 2, 1) := by decide +kernel
theorem dX8_giveTo_9 : decode cX8_giveTo 9 = .ok (.aload_n 3, 1) := by decide +kernel
theorem dX8_giveTo_10 : decode cX8_giveTo 10 = .ok (.getfield 86, 3) := by decide +kernel
theorem dX8_giveTo_13 : decode cX8_giveTo 13 = .ok (.if_icmp .lt 5, 3) := by decide +kernel
theorem dX8_giveTo_16 : decode cX8_giveTo 16 = .ok (.iconst 1, 1) := by decide +kernel
theorem dX8_giveTo_17 : decode cX8_giveTo 17 = .ok (.ireturn, 1) := by decide +kernel
theorem dX8_giveTo_18 : decode cX8_giveTo 18 = .ok (.aload_n 0, 1) := by decide +kernel
theorem dX8_giveTo_19 : decode cX8_giveTo 19 = .ok (.getfield 9, 3) := by decide +kernel
theorem dX8_giveTo_22 : decode cX8_giveTo 22 = .ok (.iload_n 1, 1) := by decide +kernel
theorem dX8_giveTo_23 : decode cX8_giveTo 23 = .ok (.iload_n 2, 1) := by decide +kernel
theorem dX8_giveTo_24 : decode cX8_giveTo 24 = .ok (.iastore, 1) := by decide +kernel
theorem dX8_giveTo_25 : decode cX8_giveTo 25 = .ok (.iconst 0, 1) := by decide +kernel
theorem dX8_giveTo_26 : decode cX8_giveTo 26 = .ok (.ireturn, 1) := by decide +kernel
theorem dX8_layDown_0 : decode cX8_layDown 0 = .ok (.iload_n 1, 1) := by decide +kernel
theorem dX8_layDown_1 : decode cX8_layDown 1 = .ok (.aload_n 2, 1) := by decide +kernel
theorem dX8_layDown_2 : decode cX8_layDown 2 = .ok (.getfield 121, 3) := by decide +kernel
theorem dX8_layDown_5 : decode cX8_layDown 5 = .ok (.if_icmp .lt 5, 3) := by decide +kernel
theorem dX8_layDown_8 : decode cX8_layDown 8 = .ok (.iconst 1, 1) := by decide +kernel
theorem dX8_layDown_9 : decode cX8_layDown 9 = .ok (.ireturn, 1) := by decide +kernel
theorem dX8_layDown_10 : decode cX8_layDown 10 = .ok (.aload_n 0, 1) := by decide +kernel
theorem dX8_layDown_11 : decode cX8_layDown 11 = .ok (.getfield 9, 3) := by decide +kernel
theorem dX8_layDown_14 : decode cX8_layDown 14 = .ok (.iload_n 1, 1) := by decide +kernel
theorem dX8_layDown_15 : decode cX8_layDown 15 = .ok (.iaload, 1) := by decide +kernel
theorem dX8_layDown_16 : decode cX8_layDown 16 = .ok (.iconst (-1), 1) := by decide +kernel
theorem dX8_layDown_17 : decode cX8_layDown 17 = .ok (.if_icmp .ne 5, 3) := by decide +kernel
theorem dX8_layDown_20 : decode cX8_layDown 20 = .ok (.iconst 2, 1) := by decide +kernel
theorem dX8_layDown_21 : decode cX8_layDown 21 = .ok (.ireturn, 1) := by decide +kernel
theorem dX8_layDown_22 : decode cX8_layDown 22 = .ok (.aload_n 0, 1) := by decide +kernel
theorem dX8_layDown_23 : decode cX8_layDown 23 = .ok (.getfield 9, 3) := by decide +kernel
theorem dX8_layDown_26 : decode cX8_layDown 26 = .ok (.iload_n 1, 1) := by decide +kernel
theorem dX8_layDown_27 : decode cX8_layDown 27 = .ok (.iconst (-1), 1) := by decide +kernel
theorem dX8_layDown_28 : decode cX8_layDown 28 = .ok (.iastore, 1) := by decide +kernel
theorem dX8_layDown_29 : decode cX8_layDown 29 = .ok (.iconst 0, 1) := by decide +kernel
theorem dX8_layDown_30 : decode cX8_layDown 30 = .ok (.ireturn, 1) := by decide +kernel
theorem dX8_attemptAll_0 : decode cX8_attemptAll 0 = .ok (.iconst 0, 1) := by decide +kernel
theorem dX8_attemptAll_1 : decode cX8_attemptAll 1 = .ok (.istore 4, 2) := by decide +kernel
theorem dX8_attemptAll_3 : decode cX8_attemptAll 3 = .ok (.iload 4, 2) := by decide +kernel
theorem dX8_attemptAll_5 : decode cX8_attemptAll 5 = .ok (.aload_n 1, 1) := by decide +kernel
theorem dX8_attemptAll_6 : decode cX8_attemptAll 6 = .ok (.getfield 149, 3) := by decide +kernel
theorem dX8_attemptAll_9 : decode cX8_attemptAll 9 = .ok (.if_icmp .ge 28, 3) := by decide +kernel
theorem dX8_attemptAll_12 : decode cX8_attemptAll 12 = .ok (.aload_n 0, 1) := by decide +kernel
theorem dX8_attemptAll_13 : decode cX8_attemptAll 13 = .ok (.aload_n 1, 1) := by decide +kernel
theorem dX8_attemptAll_14 : decode cX8_attemptAll 14 = .ok (.getfield 154, 3) := by decide +kernel
theorem dX8_attemptAll_17 : decode cX8_attemptAll 17 = .ok (.iload 4, 2) := by decide +kernel
theorem dX8_attemptAll_19 : decode cX8_attemptAll 19 = .ok (.laload, 1) := by decide +kernel
theorem dX8_attemptAll_20 : decode cX8_attemptAll 20 = .ok (.aload_n 2, 1) := by decide +kernel
theorem dX8_attemptAll_21 : decode cX8_attemptAll 21 = .ok (.aload_n 3, 1) := by decide +kernel
theorem dX8_attemptAll_22 : decode cX8_attemptAll 22 = .ok (.invokevirtual 158, 3) := by decide +kernel
theorem dX8_attemptAll_25 : decode cX8_attemptAll 25 = .ok (.ifCond .eq 6, 3) := by decide +kernel
theorem dX8_attemptAll_28 : decode cX8_attemptAll 28 = .ok (.iload 4, 2) := by decide +kernel
theorem dX8_attemptAll_30 : decode cX8_attemptAll 30 = .ok (.ireturn, 1) := by decide +kernel
theorem dX8_attemptAll_31 : decode cX8_attemptAll 31 = .ok (.iinc 4 1, 3) := by decide +kernel
theorem dX8_attemptAll_34 : decode cX8_attemptAll 34 = .ok (.goto (-31), 3) := by decide +kernel
theorem dX8_attemptAll_37 : decode cX8_attemptAll 37 = .ok (.aload_n 1, 1) := by decide +kernel
theorem dX8_attemptAll_38 : decode cX8_attemptAll 38 = .ok (.getfield 149, 3) := by decide +kernel
theorem dX8_attemptAll_41 : decode cX8_attemptAll 41 = .ok (.ireturn, 1) := by decide +kernel
theorem dX8_drawDeed_0 : decode cX8_drawDeed 0 = .ok (.aload_n 0, 1) := by decide +kernel
theorem dX8_drawDeed_1 : decode cX8_drawDeed 1 = .ok (.invokevirtual 162, 3) := by decide +kernel
theorem dX8_drawDeed_4 : decode cX8_drawDeed 4 = .ok (.iconst 5, 1) := by decide +kernel
theorem dX8_drawDeed_5 : decode cX8_drawDeed 5 = .ok (.irem, 1) := by decide +kernel
theorem dX8_drawDeed_6 : decode cX8_drawDeed 6 = .ok (.tableswitch 145 2 4 #[26, 55, 118], 26) := by decide +kernel
theorem dX8_drawDeed_32 : decode cX8_drawDeed 32 = .ok (.aload_n 0, 1) := by decide +kernel
theorem dX8_drawDeed_33 : decode cX8_drawDeed 33 = .ok (.aload_n 0, 1) := by decide +kernel
theorem dX8_drawDeed_34 : decode cX8_drawDeed 34 = .ok (.invokevirtual 162, 3) := by decide +kernel
theorem dX8_drawDeed_37 : decode cX8_drawDeed 37 = .ok (.iconst 1, 1) := by decide +kernel
theorem dX8_drawDeed_38 : decode cX8_drawDeed 38 = .ok (.aload_n 1, 1) := by decide +kernel
theorem dX8_drawDeed_39 : decode cX8_drawDeed 39 = .ok (.getfield 146, 3) := by decide +kernel
theorem dX8_drawDeed_42 : decode cX8_drawDeed 42 = .ok (.invokestatic 76, 3) := by decide +kernel
theorem dX8_drawDeed_45 : decode cX8_drawDeed 45 = .ok (.irem, 1) := by decide +kernel
theorem dX8_drawDeed_46 : decode cX8_drawDeed 46 = .ok (.i2l, 1) := by decide +kernel
theorem dX8_drawDeed_47 : decode cX8_drawDeed 47 = .ok (.aload_n 1, 1) := by decide +kernel
theorem dX8_drawDeed_48 : decode cX8_drawDeed 48 = .ok (.aload_n 2, 1) := by decide +kernel
theorem dX8_drawDeed_49 : decode cX8_drawDeed 49 = .ok (.invokevirtual 158, 3) := by decide +kernel
theorem dX8_drawDeed_52 : decode cX8_drawDeed 52 = .ok (.ifCond .ne 7, 3) := by decide +kernel
theorem dX8_drawDeed_55 : decode cX8_drawDeed 55 = .ok (.iconst 1, 1) := by decide +kernel
theorem dX8_drawDeed_56 : decode cX8_drawDeed 56 = .ok (.goto 4, 3) := by decide +kernel
theorem dX8_drawDeed_59 : decode cX8_drawDeed 59 = .ok (.iconst 0, 1) := by decide +kernel
theorem dX8_drawDeed_60 : decode cX8_drawDeed 60 = .ok (.ireturn, 1) := by decide +kernel
theorem dX8_drawDeed_61 : decode cX8_drawDeed 61 = .ok (.aload_n 1, 1) := by decide +kernel
theorem dX8_drawDeed_62 : decode cX8_drawDeed 62 = .ok (.getfield 121, 3) := by decide +kernel
theorem dX8_drawDeed_65 : decode cX8_drawDeed 65 = .ok (.ifCond .eq 10, 3) := by decide +kernel
theorem dX8_drawDeed_68 : decode cX8_drawDeed 68 = .ok (.aload_n 1, 1) := by decide +kernel
theorem dX8_drawDeed_69 : decode cX8_drawDeed 69 = .ok (.getfield 86, 3) := by decide +kernel
theorem dX8_drawDeed_72 : decode cX8_drawDeed 72 = .ok (.ifCond .ne 5, 3) := by decide +kernel
theorem dX8_drawDeed_75 : decode cX8_drawDeed 75 = .ok (.iconst 0, 1) := by decide +kernel
theorem dX8_drawDeed_76 : decode cX8_drawDeed 76 = .ok (.ireturn, 1) := by decide +kernel
theorem dX8_drawDeed_77 : decode cX8_drawDeed 77 = .ok (.aload_n 0, 1) := by decide +kernel
theorem dX8_drawDeed_78 : decode cX8_drawDeed 78 = .ok (.invokevirtual 162, 3) := by decide +kernel
theorem dX8_drawDeed_81 : decode cX8_drawDeed 81 = .ok (.aload_n 1, 1) := by decide +kernel
theorem dX8_drawDeed_82 : decode cX8_drawDeed 82 = .ok (.getfield 121, 3) := by decide +kernel
theorem dX8_drawDeed_85 : decode cX8_drawDeed 85 = .ok (.irem, 1) := by decide +kernel
theorem dX8_drawDeed_86 : decode cX8_drawDeed 86 = .ok (.istore_n 3, 1) := by decide +kernel
theorem dX8_drawDeed_87 : decode cX8_drawDeed 87 = .ok (.aload_n 0, 1) := by decide +kernel
theorem dX8_drawDeed_88 : decode cX8_drawDeed 88 = .ok (.invokevirtual 162, 3) := by decide +kernel
theorem dX8_drawDeed_91 : decode cX8_drawDeed 91 = .ok (.aload_n 1, 1) := by decide +kernel
theorem dX8_drawDeed_92 : decode cX8_drawDeed 92 = .ok (.getfield 86, 3) := by decide +kernel
theorem dX8_drawDeed_95 : decode cX8_drawDeed 95 = .ok (.irem, 1) := by decide +kernel
theorem dX8_drawDeed_96 : decode cX8_drawDeed 96 = .ok (.istore 4, 2) := by decide +kernel
theorem dX8_drawDeed_98 : decode cX8_drawDeed 98 = .ok (.aload_n 0, 1) := by decide +kernel
theorem dX8_drawDeed_99 : decode cX8_drawDeed 99 = .ok (.bipush 100, 2) := by decide +kernel
theorem dX8_drawDeed_101 : decode cX8_drawDeed 101 = .ok (.iload_n 3, 1) := by decide +kernel
theorem dX8_drawDeed_102 : decode cX8_drawDeed 102 = .ok (.bipush 100, 2) := by decide +kernel
theorem dX8_drawDeed_104 : decode cX8_drawDeed 104 = .ok (.imul, 1) := by decide +kernel
theorem dX8_drawDeed_105 : decode cX8_drawDeed 105 = .ok (.iadd, 1) := by decide +kernel
theorem dX8_drawDeed_106 : decode cX8_drawDeed 106 = .ok (.iload 4, 2) := by decide +kernel
theorem dX8_drawDeed_108 : decode cX8_drawDeed 108 = .ok (.iadd, 1) := by decide +kernel
theorem dX8_drawDeed_109 : decode cX8_drawDeed 109 = .ok (.i2l, 1) := by decide +kernel
theorem dX8_drawDeed_110 : decode cX8_drawDeed 110 = .ok (.aload_n 1, 1) := by decide +kernel
theorem dX8_drawDeed_111 : decode cX8_drawDeed 111 = .ok (.aload_n 2, 1) := by decide +kernel
theorem dX8_drawDeed_112 : decode cX8_drawDeed 112 = .ok (.invokevirtual 158, 3) := by decide +kernel
theorem dX8_drawDeed_115 : decode cX8_drawDeed 115 = .ok (.ifCond .ne 7, 3) := by decide +kernel
theorem dX8_drawDeed_118 : decode cX8_drawDeed 118 = .ok (.iconst 1, 1) := by decide +kernel
theorem dX8_drawDeed_119 : decode cX8_drawDeed 119 = .ok (.goto 4, 3) := by decide +kernel
theorem dX8_drawDeed_122 : decode cX8_drawDeed 122 = .ok (.iconst 0, 1) := by decide +kernel
theorem dX8_drawDeed_123 : decode cX8_drawDeed 123 = .ok (.ireturn, 1) := by decide +kernel
theorem dX8_drawDeed_124 : decode cX8_drawDeed 124 = .ok (.aload_n 0, 1) := by decide +kernel
theorem dX8_drawDeed_125 : decode cX8_drawDeed 125 = .ok (.sipush 2000, 3) := by decide +kernel
theorem dX8_drawDeed_128 : decode cX8_drawDeed 128 = .ok (.aload_n 0, 1) := by decide +kernel
theorem dX8_drawDeed_129 : decode cX8_drawDeed 129 = .ok (.invokevirtual 162, 3) := by decide +kernel
theorem dX8_drawDeed_132 : decode cX8_drawDeed 132 = .ok (.bipush 6, 2) := by decide +kernel
theorem dX8_drawDeed_134 : decode cX8_drawDeed 134 = .ok (.irem, 1) := by decide +kernel
theorem dX8_drawDeed_135 : decode cX8_drawDeed 135 = .ok (.iadd, 1) := by decide +kernel
theorem dX8_drawDeed_136 : decode cX8_drawDeed 136 = .ok (.i2l, 1) := by decide +kernel
theorem dX8_drawDeed_137 : decode cX8_drawDeed 137 = .ok (.aload_n 1, 1) := by decide +kernel
theorem dX8_drawDeed_138 : decode cX8_drawDeed 138 = .ok (.aload_n 2, 1) := by decide +kernel
theorem dX8_drawDeed_139 : decode cX8_drawDeed 139 = .ok (.invokevirtual 158, 3) := by decide +kernel
theorem dX8_drawDeed_142 : decode cX8_drawDeed 142 = .ok (.ifCond .ne 7, 3) := by decide +kernel
theorem dX8_drawDeed_145 : decode cX8_drawDeed 145 = .ok (.iconst 1, 1) := by decide +kernel
theorem dX8_drawDeed_146 : decode cX8_drawDeed 146 = .ok (.goto 4, 3) := by decide +kernel
theorem dX8_drawDeed_149 : decode cX8_drawDeed 149 = .ok (.iconst 0, 1) := by decide +kernel
theorem dX8_drawDeed_150 : decode cX8_drawDeed 150 = .ok (.ireturn, 1) := by decide +kernel
theorem dX8_drawDeed_151 : decode cX8_drawDeed 151 = .ok (.aload_n 0, 1) := by decide +kernel
theorem dX8_drawDeed_152 : decode cX8_drawDeed 152 = .ok (.ldc2_w 127, 3) := by decide +kernel
theorem dX8_drawDeed_155 : decode cX8_drawDeed 155 = .ok (.aload_n 1, 1) := by decide +kernel
theorem dX8_drawDeed_156 : decode cX8_drawDeed 156 = .ok (.aload_n 2, 1) := by decide +kernel
theorem dX8_drawDeed_157 : decode cX8_drawDeed 157 = .ok (.invokevirtual 158, 3) := by decide +kernel
theorem dX8_drawDeed_160 : decode cX8_drawDeed 160 = .ok (.ifCond .ne 7, 3) := by decide +kernel
theorem dX8_drawDeed_163 : decode cX8_drawDeed 163 = .ok (.iconst 1, 1) := by decide +kernel
theorem dX8_drawDeed_164 : decode cX8_drawDeed 164 = .ok (.goto 4, 3) := by decide +kernel
theorem dX8_drawDeed_167 : decode cX8_drawDeed 167 = .ok (.iconst 0, 1) := by decide +kernel
theorem dX8_drawDeed_168 : decode cX8_drawDeed 168 = .ok (.ireturn, 1) := by decide +kernel
theorem dX8_draw_0 : decode cX8_draw 0 = .ok (.aload_n 0, 1) := by decide +kernel
theorem dX8_draw_1 : decode cX8_draw 1 = .ok (.ldc 166, 2) := by decide +kernel
theorem dX8_draw_3 : decode cX8_draw 3 = .ok (.aload_n 0, 1) := by decide +kernel
theorem dX8_draw_4 : decode cX8_draw 4 = .ok (.getfield 45, 3) := by decide +kernel
theorem dX8_draw_7 : decode cX8_draw 7 = .ok (.imul, 1) := by decide +kernel
theorem dX8_draw_8 : decode cX8_draw 8 = .ok (.sipush 12345, 3) := by decide +kernel
theorem dX8_draw_11 : decode cX8_draw 11 = .ok (.iadd, 1) := by decide +kernel
theorem dX8_draw_12 : decode cX8_draw 12 = .ok (.putfield 45, 3) := by decide +kernel
theorem dX8_draw_15 : decode cX8_draw 15 = .ok (.aload_n 0, 1) := by decide +kernel
theorem dX8_draw_16 : decode cX8_draw 16 = .ok (.getfield 45, 3) := by decide +kernel
theorem dX8_draw_19 : decode cX8_draw 19 = .ok (.bipush 16, 2) := by decide +kernel
theorem dX8_draw_21 : decode cX8_draw 21 = .ok (.iushr, 1) := by decide +kernel
theorem dX8_draw_22 : decode cX8_draw 22 = .ok (.ireturn, 1) := by decide +kernel
theorem dX8_shellsOf_0 : decode cX8_shellsOf 0 = .ok (.iconst 0, 1) := by decide +kernel
theorem dX8_shellsOf_1 : decode cX8_shellsOf 1 = .ok (.istore_n 3, 1) := by decide +kernel
theorem dX8_shellsOf_2 : decode cX8_shellsOf 2 = .ok (.iconst 0, 1) := by decide +kernel
theorem dX8_shellsOf_3 : decode cX8_shellsOf 3 = .ok (.istore 4, 2) := by decide +kernel
theorem dX8_shellsOf_5 : decode cX8_shellsOf 5 = .ok (.iload 4, 2) := by decide +kernel
theorem dX8_shellsOf_7 : decode cX8_shellsOf 7 = .ok (.aload_n 1, 1) := by decide +kernel
theorem dX8_shellsOf_8 : decode cX8_shellsOf 8 = .ok (.getfield 121, 3) := by decide +kernel
theorem dX8_shellsOf_11 : decode cX8_shellsOf 11 = .ok (.if_icmp .ge 27, 3) := by decide +kernel
theorem dX8_shellsOf_14 : decode cX8_shellsOf 14 = .ok (.aload_n 0, 1) := by decide +kernel
theorem dX8_shellsOf_15 : decode cX8_shellsOf 15 = .ok (.getfield 9, 3) := by decide +kernel
theorem dX8_shellsOf_18 : decode cX8_shellsOf 18 = .ok (.iload 4, 2) := by decide +kernel
theorem dX8_shellsOf_20 : decode cX8_shellsOf 20 = .ok (.iaload, 1) := by decide +kernel
theorem dX8_shellsOf_21 : decode cX8_shellsOf 21 = .ok (.iload_n 2, 1) := by decide +kernel
theorem dX8_shellsOf_22 : decode cX8_shellsOf 22 = .ok (.if_icmp .ne 10, 3) := by decide +kernel
theorem dX8_shellsOf_25 : decode cX8_shellsOf 25 = .ok (.iload_n 3, 1) := by decide +kernel
theorem dX8_shellsOf_26 : decode cX8_shellsOf 26 = .ok (.iconst 1, 1) := by decide +kernel
theorem dX8_shellsOf_27 : decode cX8_shellsOf 27 = .ok (.iload 4, 2) := by decide +kernel
theorem dX8_shellsOf_29 : decode cX8_shellsOf 29 = .ok (.ishl, 1) := by decide +kernel
theorem dX8_shellsOf_30 : decode cX8_shellsOf 30 = .ok (.ior, 1) := by decide +kernel
theorem dX8_shellsOf_31 : decode cX8_shellsOf 31 = .ok (.istore_n 3, 1) := by decide +kernel
theorem dX8_shellsOf_32 : decode cX8_shellsOf 32 = .ok (.iinc 4 1, 3) := by decide +kernel
theorem dX8_shellsOf_35 : decode cX8_shellsOf 35 = .ok (.goto (-30), 3) := by decide +kernel
theorem dX8_shellsOf_38 : decode cX8_shellsOf 38 = .ok (.iload_n 3, 1) := by decide +kernel
theorem dX8_shellsOf_39 : decode cX8_shellsOf 39 = .ok (.ireturn, 1) := by decide +kernel
theorem dX8_hearersOf_0 : decode cX8_hearersOf 0 = .ok (.iconst 0, 1) := by decide +kernel
theorem dX8_hearersOf_1 : decode cX8_hearersOf 1 = .ok (.istore_n 2, 1) := by decide +kernel
theorem dX8_hearersOf_2 : decode cX8_hearersOf 2 = .ok (.iconst 0, 1) := by decide +kernel
theorem dX8_hearersOf_3 : decode cX8_hearersOf 3 = .ok (.istore_n 3, 1) := by decide +kernel
theorem dX8_hearersOf_4 : decode cX8_hearersOf 4 = .ok (.iload_n 3, 1) := by decide +kernel
theorem dX8_hearersOf_5 : decode cX8_hearersOf 5 = .ok (.bipush 6, 2) := by decide +kernel
theorem dX8_hearersOf_7 : decode cX8_hearersOf 7 = .ok (.if_icmp .ge 24, 3) := by decide +kernel
theorem dX8_hearersOf_10 : decode cX8_hearersOf 10 = .ok (.iload_n 2, 1) := by decide +kernel
theorem dX8_hearersOf_11 : decode cX8_hearersOf 11 = .ok (.aload_n 0, 1) := by decide +kernel
theorem dX8_hearersOf_12 : decode cX8_hearersOf 12 = .ok (.getfield 27, 3) := by decide +kernel
theorem dX8_hearersOf_15 : decode cX8_hearersOf 15 = .ok (.iload_n 3, 1) := by decide +kernel
theorem dX8_hearersOf_16 : decode cX8_hearersOf 16 = .ok (.iaload, 1) := by decide +kernel
theorem dX8_hearersOf_17 : decode cX8_hearersOf 17 = .ok (.iload_n 1, 1) := by decide +kernel
theorem dX8_hearersOf_18 : decode cX8_hearersOf 18 = .ok (.ishr, 1) := by decide +kernel
theorem dX8_hearersOf_19 : decode cX8_hearersOf 19 = .ok (.iconst 1, 1) := by decide +kernel
theorem dX8_hearersOf_20 : decode cX8_hearersOf 20 = .ok (.iand, 1) := by decide +kernel
theorem dX8_hearersOf_21 : decode cX8_hearersOf 21 = .ok (.iload_n 3, 1) := by decide +kernel
theorem dX8_hearersOf_22 : decode cX8_hearersOf 22 = .ok (.ishl, 1) := by decide +kernel
theorem dX8_hearersOf_23 : decode cX8_hearersOf 23 = .ok (.ior, 1) := by decide +kernel
theorem dX8_hearersOf_24 : decode cX8_hearersOf 24 = .ok (.istore_n 2, 1) := by decide +kernel
theorem dX8_hearersOf_25 : decode cX8_hearersOf 25 = .ok (.iinc 3 1, 3) := by decide +kernel
theorem dX8_hearersOf_28 : decode cX8_hearersOf 28 = .ok (.goto (-24), 3) := by decide +kernel
theorem dX8_hearersOf_31 : decode cX8_hearersOf 31 = .ok (.iload_n 2, 1) := by decide +kernel
theorem dX8_hearersOf_32 : decode cX8_hearersOf 32 = .ok (.ireturn, 1) := by decide +kernel
theorem dX8_heardAll_0 : decode cX8_heardAll 0 = .ok (.iconst 0, 1) := by decide +kernel
theorem dX8_heardAll_1 : decode cX8_heardAll 1 = .ok (.istore_n 2, 1) := by decide +kernel
theorem dX8_heardAll_2 : decode cX8_heardAll 2 = .ok (.iconst 0, 1) := by decide +kernel
theorem dX8_heardAll_3 : decode cX8_heardAll 3 = .ok (.istore_n 3, 1) := by decide +kernel
theorem dX8_heardAll_4 : decode cX8_heardAll 4 = .ok (.iload_n 3, 1) := by decide +kernel
theorem dX8_heardAll_5 : decode cX8_heardAll 5 = .ok (.aload_n 1, 1) := by decide +kernel
theorem dX8_heardAll_6 : decode cX8_heardAll 6 = .ok (.getfield 86, 3) := by decide +kernel
theorem dX8_heardAll_9 : decode cX8_heardAll 9 = .ok (.if_icmp .ge 32, 3) := by decide +kernel
theorem dX8_heardAll_12 : decode cX8_heardAll 12 = .ok (.aload_n 0, 1) := by decide +kernel
theorem dX8_heardAll_13 : decode cX8_heardAll 13 = .ok (.getfield 27, 3) := by decide +kernel
theorem dX8_heardAll_16 : decode cX8_heardAll 16 = .ok (.iload_n 3, 1) := by decide +kernel
theorem dX8_heardAll_17 : decode cX8_heardAll 17 = .ok (.iaload, 1) := by decide +kernel
theorem dX8_heardAll_18 : decode cX8_heardAll 18 = .ok (.iconst 1, 1) := by decide +kernel
theorem dX8_heardAll_19 : decode cX8_heardAll 19 = .ok (.aload_n 0, 1) := by decide +kernel
theorem dX8_heardAll_20 : decode cX8_heardAll 20 = .ok (.getfield 48, 3) := by decide +kernel
theorem dX8_heardAll_23 : decode cX8_heardAll 23 = .ok (.ishl, 1) := by decide +kernel
theorem dX8_heardAll_24 : decode cX8_heardAll 24 = .ok (.iconst 1, 1) := by decide +kernel
theorem dX8_heardAll_25 : decode cX8_heardAll 25 = .ok (.isub, 1) := by decide +kernel
theorem dX8_heardAll_26 : decode cX8_heardAll 26 = .ok (.if_icmp .ne 9, 3) := by decide +kernel
theorem dX8_heardAll_29 : decode cX8_heardAll 29 = .ok (.iload_n 2, 1) := by decide +kernel
theorem dX8_heardAll_30 : decode cX8_heardAll 30 = .ok (.iconst 1, 1) := by decide +kernel
theorem dX8_heardAll_31 : decode cX8_heardAll 31 = .ok (.iload_n 3, 1) := by decide +kernel
theorem dX8_heardAll_32 : decode cX8_heardAll 32 = .ok (.ishl, 1) := by decide +kernel
theorem dX8_heardAll_33 : decode cX8_heardAll 33 = .ok (.ior, 1) := by decide +kernel
theorem dX8_heardAll_34 : decode cX8_heardAll 34 = .ok (.istore_n 2, 1) := by decide +kernel
theorem dX8_heardAll_35 : decode cX8_heardAll 35 = .ok (.iinc 3 1, 3) := by decide +kernel
theorem dX8_heardAll_38 : decode cX8_heardAll 38 = .ok (.goto (-34), 3) := by decide +kernel
theorem dX8_heardAll_41 : decode cX8_heardAll 41 = .ok (.iload_n 2, 1) := by decide +kernel
theorem dX8_heardAll_42 : decode cX8_heardAll 42 = .ok (.ireturn, 1) := by decide +kernel
theorem dX8_hearable_0 : decode cX8_hearable 0 = .ok (.aload_n 1, 1) := by decide +kernel
theorem dX8_hearable_1 : decode cX8_hearable 1 = .ok (.getfield 167, 3) := by decide +kernel
theorem dX8_hearable_4 : decode cX8_hearable 4 = .ok (.iload_n 2, 1) := by decide +kernel
theorem dX8_hearable_5 : decode cX8_hearable 5 = .ok (.ishr, 1) := by decide +kernel
theorem dX8_hearable_6 : decode cX8_hearable 6 = .ok (.iconst 1, 1) := by decide +kernel
theorem dX8_hearable_7 : decode cX8_hearable 7 = .ok (.iand, 1) := by decide +kernel
theorem dX8_hearable_8 : decode cX8_hearable 8 = .ok (.iconst 1, 1) := by decide +kernel
theorem dX8_hearable_9 : decode cX8_hearable 9 = .ok (.if_icmp .ne 5, 3) := by decide +kernel
theorem dX8_hearable_12 : decode cX8_hearable 12 = .ok (.iconst 0, 1) := by decide +kernel
theorem dX8_hearable_13 : decode cX8_hearable 13 = .ok (.ireturn, 1) := by decide +kernel
theorem dX8_hearable_14 : decode cX8_hearable 14 = .ok (.aload_n 0, 1) := by decide +kernel
theorem dX8_hearable_15 : decode cX8_hearable 15 = .ok (.aload_n 1, 1) := by decide +kernel
theorem dX8_hearable_16 : decode cX8_hearable 16 = .ok (.iload_n 2, 1) := by decide +kernel
theorem dX8_hearable_17 : decode cX8_hearable 17 = .ok (.invokevirtual 99, 3) := by decide +kernel
theorem dX8_hearable_20 : decode cX8_hearable 20 = .ok (.istore_n 3, 1) := by decide +kernel
theorem dX8_hearable_21 : decode cX8_hearable 21 = .ok (.iconst 0, 1) := by decide +kernel
theorem dX8_hearable_22 : decode cX8_hearable 22 = .ok (.istore 4, 2) := by decide +kernel
theorem dX8_hearable_24 : decode cX8_hearable 24 = .ok (.iconst 0, 1) := by decide +kernel
theorem dX8_hearable_25 : decode cX8_hearable 25 = .ok (.istore 5, 2) := by decide +kernel
theorem dX8_hearable_27 : decode cX8_hearable 27 = .ok (.iload 5, 2) := by decide +kernel
theorem dX8_hearable_29 : decode cX8_hearable 29 = .ok (.aload_n 1, 1) := by decide +kernel
theorem dX8_hearable_30 : decode cX8_hearable 30 = .ok (.getfield 86, 3) := by decide +kernel
theorem dX8_hearable_33 : decode cX8_hearable 33 = .ok (.if_icmp .ge 50, 3) := by decide +kernel
theorem dX8_hearable_36 : decode cX8_hearable 36 = .ok (.iload 5, 2) := by decide +kernel
theorem dX8_hearable_38 : decode cX8_hearable 38 = .ok (.iload_n 2, 1) := by decide +kernel
theorem dX8_hearable_39 : decode cX8_hearable 39 = .ok (.if_icmp .eq 38, 3) := by decide +kernel
theorem dX8_hearable_42 : decode cX8_hearable 42 = .ok (.aload_n 1, 1) := by decide +kernel
theorem dX8_hearable_43 : decode cX8_hearable 43 = .ok (.getfield 118, 3) := by decide +kernel
theorem dX8_hearable_46 : decode cX8_hearable 46 = .ok (.iload 5, 2) := by decide +kernel
theorem dX8_hearable_48 : decode cX8_hearable 48 = .ok (.iaload, 1) := by decide +kernel
theorem dX8_hearable_49 : decode cX8_hearable 49 = .ok (.iconst (-1), 1) := by decide +kernel
theorem dX8_hearable_50 : decode cX8_hearable 50 = .ok (.if_icmp .eq 27, 3) := by decide +kernel
theorem dX8_hearable_53 : decode cX8_hearable 53 = .ok (.iload_n 3, 1) := by decide +kernel
theorem dX8_hearable_54 : decode cX8_hearable 54 = .ok (.aload_n 1, 1) := by decide +kernel
theorem dX8_hearable_55 : decode cX8_hearable 55 = .ok (.getfield 118, 3) := by decide +kernel
theorem dX8_hearable_58 : decode cX8_hearable 58 = .ok (.iload 5, 2) := by decide +kernel
theorem dX8_hearable_60 : decode cX8_hearable 60 = .ok (.iaload, 1) := by decide +kernel
theorem dX8_hearable_61 : decode cX8_hearable 61 = .ok (.ishr, 1) := by decide +kernel
theorem dX8_hearable_62 : decode cX8_hearable 62 = .ok (.iconst 1, 1) := by decide +kernel
theorem dX8_hearable_63 : decode cX8_hearable 63 = .ok (.iand, 1) := by decide +kernel
theorem dX8_hearable_64 : decode cX8_hearable 64 = .ok (.iconst 1, 1) := by decide +kernel
theorem dX8_hearable_65 : decode cX8_hearable 65 = .ok (.if_icmp .ne 12, 3) := by decide +kernel
theorem dX8_hearable_68 : decode cX8_hearable 68 = .ok (.iload 4, 2) := by decide +kernel
theorem dX8_hearable_70 : decode cX8_hearable 70 = .ok (.iconst 1, 1) := by decide +kernel
theorem dX8_hearable_71 : decode cX8_hearable 71 = .ok (.iload 5, 2) := by decide +kernel
theorem dX8_hearable_73 : decode cX8_hearable 73 = .ok (.ishl, 1) := by decide +kernel
theorem dX8_hearable_74 : decode cX8_hearable 74 = .ok (.ior, 1) := by decide +kernel
theorem dX8_hearable_75 : decode cX8_hearable 75 = .ok (.istore 4, 2) := by decide +kernel
theorem dX8_hearable_77 : decode cX8_hearable 77 = .ok (.iinc 5 1, 3) := by decide +kernel
theorem dX8_hearable_80 : decode cX8_hearable 80 = .ok (.goto (-53), 3) := by decide +kernel
theorem dX8_hearable_83 : decode cX8_hearable 83 = .ok (.iload 4, 2) := by decide +kernel
theorem dX8_hearable_85 : decode cX8_hearable 85 = .ok (.ireturn, 1) := by decide +kernel
theorem dX8_mutualTwos_0 : decode cX8_mutualTwos 0 = .ok (.iconst 0, 1) := by decide +kernel
theorem dX8_mutualTwos_1 : decode cX8_mutualTwos 1 = .ok (.istore_n 2, 1) := by decide +kernel
theorem dX8_mutualTwos_2 : decode cX8_mutualTwos 2 = .ok (.iconst 0, 1) := by decide +kernel
theorem dX8_mutualTwos_3 : decode cX8_mutualTwos 3 = .ok (.istore_n 3, 1) := by decide +kernel
theorem dX8_mutualTwos_4 : decode cX8_mutualTwos 4 = .ok (.iload_n 3, 1) := by decide +kernel
theorem dX8_mutualTwos_5 : decode cX8_mutualTwos 5 = .ok (.aload_n 1, 1) := by decide +kernel
theorem dX8_mutualTwos_6 : decode cX8_mutualTwos 6 = .ok (.getfield 86, 3) := by decide +kernel
theorem dX8_mutualTwos_9 : decode cX8_mutualTwos 9 = .ok (.if_icmp .ge 56, 3) := by decide +kernel
theorem dX8_mutualTwos_12 : decode cX8_mutualTwos 12 = .ok (.aload_n 0, 1) := by decide +kernel
theorem dX8_mutualTwos_13 : decode cX8_mutualTwos 13 = .ok (.aload_n 1, 1) := by decide +kernel
theorem dX8_mutualTwos_14 : decode cX8_mutualTwos 14 = .ok (.iload_n 3, 1) := by decide +kernel
theorem dX8_mutualTwos_15 : decode cX8_mutualTwos 15 = .ok (.invokevirtual 170, 3) := by decide +kernel
theorem dX8_mutualTwos_18 : decode cX8_mutualTwos 18 = .ok (.istore 4, 2) := by decide +kernel
theorem dX8_mutualTwos_20 : decode cX8_mutualTwos 20 = .ok (.iconst 0, 1) := by decide +kernel
theorem dX8_mutualTwos_21 : decode cX8_mutualTwos 21 = .ok (.istore 5, 2) := by decide +kernel
theorem dX8_mutualTwos_23 : decode cX8_mutualTwos 23 = .ok (.iload 5, 2) := by decide +kernel
theorem dX8_mutualTwos_25 : decode cX8_mutualTwos 25 = .ok (.iload_n 3, 1) := by decide +kernel
theorem dX8_mutualTwos_26 : decode cX8_mutualTwos 26 = .ok (.if_icmp .ge 33, 3) := by decide +kernel
theorem dX8_mutualTwos_29 : decode cX8_mutualTwos 29 = .ok (.iload 4, 2) := by decide +kernel
theorem dX8_mutualTwos_31 : decode cX8_mutualTwos 31 = .ok (.iload 5, 2) := by decide +kernel
theorem dX8_mutualTwos_33 : decode cX8_mutualTwos 33 = .ok (.ishr, 1) := by decide +kernel
theorem dX8_mutualTwos_34 : decode cX8_mutualTwos 34 = .ok (.aload_n 0, 1) := by decide +kernel
theorem dX8_mutualTwos_35 : decode cX8_mutualTwos 35 = .ok (.aload_n 1, 1) := by decide +kernel
theorem dX8_mutualTwos_36 : decode cX8_mutualTwos 36 = .ok (.iload 5, 2) := by decide +kernel
theorem dX8_mutualTwos_38 : decode cX8_mutualTwos 38 = .ok (.invokevirtual 170, 3) := by decide +kernel
theorem dX8_mutualTwos_41 : decode cX8_mutualTwos 41 = .ok (.iload_n 3, 1) := by decide +kernel
theorem dX8_mutualTwos_42 : decode cX8_mutualTwos 42 = .ok (.ishr, 1) := by decide +kernel
theorem dX8_mutualTwos_43 : decode cX8_mutualTwos 43 = .ok (.iand, 1) := by decide +kernel
theorem dX8_mutualTwos_44 : decode cX8_mutualTwos 44 = .ok (.iconst 1, 1) := by decide +kernel
theorem dX8_mutualTwos_45 : decode cX8_mutualTwos 45 = .ok (.iand, 1) := by decide +kernel
theorem dX8_mutualTwos_46 : decode cX8_mutualTwos 46 = .ok (.iconst 1, 1) := by decide +kernel
theorem dX8_mutualTwos_47 : decode cX8_mutualTwos 47 = .ok (.if_icmp .ne 6, 3) := by decide +kernel
theorem dX8_mutualTwos_50 : decode cX8_mutualTwos 50 = .ok (.iinc 2 1, 3) := by decide +kernel
theorem dX8_mutualTwos_53 : decode cX8_mutualTwos 53 = .ok (.iinc 5 1, 3) := by decide +kernel
theorem dX8_mutualTwos_56 : decode cX8_mutualTwos 56 = .ok (.goto (-33), 3) := by decide +kernel
theorem dX8_mutualTwos_59 : decode cX8_mutualTwos 59 = .ok (.iinc 3 1, 3) := by decide +kernel
theorem dX8_mutualTwos_62 : decode cX8_mutualTwos 62 = .ok (.goto (-58), 3) := by decide +kernel
theorem dX8_mutualTwos_65 : decode cX8_mutualTwos 65 = .ok (.iload_n 2, 1) := by decide +kernel
theorem dX8_mutualTwos_66 : decode cX8_mutualTwos 66 = .ok (.ireturn, 1) := by decide +kernel
theorem dX9_init_0 : decode cX9_init 0 = .ok (.aload_n 0, 1) := by decide +kernel
theorem dX9_init_1 : decode cX9_init 1 = .ok (.invokespecial 3, 3) := by decide +kernel
theorem dX9_init_4 : decode cX9_init 4 = .ok (.aload_n 0, 1) := by decide +kernel
theorem dX9_init_5 : decode cX9_init 5 = .ok (.sipush 901, 3) := by decide +kernel
theorem dX9_init_8 : decode cX9_init 8 = .ok (.newarray .int, 2) := by decide +kernel
theorem dX9_init_10 : decode cX9_init 10 = .ok (.putfield 9, 3) := by decide +kernel
theorem dX9_init_13 : decode cX9_init 13 = .ok (.aload_n 0, 1) := by decide +kernel
theorem dX9_init_14 : decode cX9_init 14 = .ok (.sipush 901, 3) := by decide +kernel
theorem dX9_init_17 : decode cX9_init 17 = .ok (.newarray .int, 2) := by decide +kernel
theorem dX9_init_19 : decode cX9_init 19 = .ok (.putfield 15, 3) := by decide +kernel
theorem dX9_init_22 : decode cX9_init 22 = .ok (.return_, 1) := by decide +kernel
theorem dX9_split_0 : decode cX9_split 0 = .ok (.aload_n 0, 1) := by decide +kernel
theorem dX9_split_1 : decode cX9_split 1 = .ok (.iconst 0, 1) := by decide +kernel
theorem dX9_split_2 : decode cX9_split 2 = .ok (.putfield 18, 3) := by decide +kernel
theorem dX9_split_5 : decode cX9_split 5 = .ok (.iconst 0, 1) := by decide +kernel
theorem dX9_split_6 : decode cX9_split 6 = .ok (.istore_n 3, 1) := by decide +kernel
theorem dX9_split_7 : decode cX9_split 7 = .ok (.iconst 0, 1) := by decide +kernel
theorem dX9_split_8 : decode cX9_split 8 = .ok (.istore 4, 2) := by decide +kernel
theorem dX9_split_10 : decode cX9_split 10 = .ok (.iload 4, 2) := by decide +kernel
theorem dX9_split_12 : decode cX9_split 12 = .ok (.sipush 900, 3) := by decide +kernel
theorem dX9_split_15 : decode cX9_split 15 = .ok (.if_icmp .ge 147, 3) := by decide +kernel
theorem dX9_split_18 : decode cX9_split 18 = .ok (.iload_n 3, 1) := by decide +kernel
theorem dX9_split_19 : decode cX9_split 19 = .ok (.iload_n 2, 1) := by decide +kernel
theorem dX9_split_20 : decode cX9_split 20 = .ok (.if_icmp .ge 142, 3) := by decide +kernel
theorem dX9_split_23 : decode cX9_split 23 = .ok (.aload_n 1, 1) := by decide +kernel
theorem dX9_split_24 : decode cX9_split 24 = .ok (.iload_n 3, 1) := by decide +kernel
theorem dX9_split_25 : decode cX9_split 25 = .ok (.baload, 1) := by decide +kernel
theorem dX9_split_26 : decode cX9_split 26 = .ok (.sipush 255, 3) := by decide +kernel
theorem dX9_split_29 : decode cX9_split 29 = .ok (.iand, 1) := by decide +kernel
theorem dX9_split_30 : decode cX9_split 30 = .ok (.istore 5, 2) := by decide +kernel
theorem dX9_split_32 : decode cX9_split 32 = .ok (.iload_n 3, 1) := by decide +kernel
theorem dX9_split_33 : decode cX9_split 33 = .ok (.iconst 1, 1) := by decide +kernel
theorem dX9_split_34 : decode cX9_split 34 = .ok (.iadd, 1) := by decide +kernel
theorem dX9_split_35 : decode cX9_split 35 = .ok (.istore 6, 2) := by decide +kernel
theorem dX9_split_37 : decode cX9_split 37 = .ok (.iload 5, 2) := by decide +kernel
theorem dX9_split_39 : decode cX9_split 39 = .ok (.invokestatic 22, 3) := by decide +kernel
theorem dX9_split_42 : decode cX9_split 42 = .ok (.ifCond .ne 11, 3) := by decide +kernel
theorem dX9_split_45 : decode cX9_split 45 = .ok (.iload 5, 2) := by decide +kernel
theorem dX9_split_47 : decode cX9_split 47 = .ok (.invokestatic 26, 3) := by decide +kernel
theorem dX9_split_50 : decode cX9_split 50 = .ok (.ifCond .eq 44, 3) := by decide +kernel
theorem dX9_split_53 : decode cX9_split 53 = .ok (.aload_n 1, 1) := by decide +kernel
theorem dX9_split_54 : decode cX9_split 54 = .ok (.iload_n 3, 1) := by decide +kernel
theorem dX9_split_55 : decode cX9_split 55 = .ok (.iload_n 2, 1) := by decide +kernel
theorem dX9_split_56 : decode cX9_split 56 = .ok (.invokestatic 29, 3) := by decide +kernel
theorem dX9_split_59 : decode cX9_split 59 = .ok (.istore 6, 2) := by decide +kernel
theorem dX9_split_61 : decode cX9_split 61 = .ok (.aload_n 0, 1) := by decide +kernel
theorem dX9_split_62 : decode cX9_split 62 = .ok (.iload 5, 2) := by decide +kernel
theorem dX9_split_64 : decode cX9_split 64 = .ok (.invokestatic 22, 3) := by decide +kernel
theorem dX9_split_67 : decode cX9_split 67 = .ok (.ifCond .eq 13, 3) := by decide +kernel
theorem dX9_split_70 : decode cX9_split 70 = .ok (.aload_n 1, 1) := by decide +kernel
theorem dX9_split_71 : decode cX9_split 71 = .ok (.iload_n 3, 1) := by decide +kernel
theorem dX9_split_72 : decode cX9_split 72 = .ok (.iload 6, 2) := by decide +kernel
theorem dX9_split_74 : decode cX9_split 74 = .ok (.invokestatic 33, 3) := by decide +kernel
theorem dX9_split_77 : decode cX9_split 77 = .ok (.goto 10, 3) := by decide +kernel
theorem dX9_split_80 : decode cX9_split 80 = .ok (.aload_n 1, 1) := by decide +kernel
theorem dX9_split_81 : decode cX9_split 81 = .ok (.iload_n 3, 1) := by decide +kernel
theorem dX9_split_82 : decode cX9_split 82 = .ok (.iload 6, 2) := by decide +kernel
theorem dX9_split_84 : decode cX9_split 84 = .ok (.invokestatic 36, 3) := by decide +kernel
theorem dX9_split_87 : decode cX9_split 87 = .ok (.iload_n 3, 1) := by decide +kernel
theorem dX9_split_88 : decode cX9_split 88 = .ok (.invokevirtual 39, 3) := by decide +kernel
theorem dX9_split_91 : decode cX9_split 91 = .ok (.goto 39, 3) := by decide +kernel
theorem dX9_split_94 : decode cX9_split 94 = .ok (.iload 5, 2) := by decide +kernel
theorem dX9_split_96 : decode cX9_split 96 = .ok (.bipush 10, 2) := by decide +kernel
theorem dX9_split_98 : decode cX9_split 98 = .ok (.if_icmp .eq 32, 3) := by decide +kernel
theorem dX9_split_101 : decode cX9_split 101 = .ok (.iload 5, 2) := by decide +kernel
theorem dX9_split_103 : decode cX9_split 103 = .ok (.bipush 32, 2) := by decide +kernel
theorem dX9_split_105 : decode cX9_split 105 = .ok (.if_icmp .eq 25, 3) := by decide +kernel
theorem dX9_split_108 : decode cX9_split 108 = .ok (.aload_n 0, 1) := by decide +kernel
theorem dX9_split_109 : decode cX9_split 109 = .ok (.ldc 43, 2) := by decide +kernel
theorem dX9_split_111 : decode cX9_split 111 = .ok (.iload 5, 2) := by decide +kernel
theorem dX9_split_113 : decode cX9_split 113 = .ok (.i2c, 1) := by decide +kernel
theorem dX9_split_114 : decode cX9_split 114 = .ok (.invokevirtual 45, 3) := by decide +kernel
theorem dX9_split_117 : decode cX9_split 117 = .ok (.ifCond .lt 8, 3) := by decide +kernel
theorem dX9_split_120 : decode cX9_split 120 = .ok (.iload 5, 2) := by decide +kernel
theorem dX9_split_122 : decode cX9_split 122 = .ok (.goto 4, 3) := by decide +kernel
theorem dX9_split_125 : decode cX9_split 125 = .ok (.iconst 1, 1) := by decide +kernel
theorem dX9_split_126 : decode cX9_split 126 = .ok (.iload_n 3, 1) := by decide +kernel
theorem dX9_split_127 : decode cX9_split 127 = .ok (.invokevirtual 39, 3) := by decide +kernel
theorem dX9_split_130 : decode cX9_split 130 = .ok (.aload_n 0, 1) := by decide +kernel
theorem dX9_split_131 : decode cX9_split 131 = .ok (.getfield 18, 3) := by decide +kernel
theorem dX9_split_134 : decode cX9_split 134 = .ok (.ifCond .le 19, 3) := by decide +kernel
theorem dX9_split_137 : decode cX9_split 137 = .ok (.aload_n 0, 1) := by decide +kernel
theorem dX9_split_138 : decode cX9_split 138 = .ok (.getfield 9, 3) := by decide +kernel
theorem dX9_split_141 : decode cX9_split 141 = .ok (.aload_n 0, 1) := by decide +kernel
theorem dX9_split_142 : decode cX9_split 142 = .ok (.getfield 18, 3) := by decide +kernel
theorem dX9_split_145 : decode cX9_split 145 = .ok (.iconst 1, 1) := by decide +kernel
theorem dX9_split_146 : decode cX9_split 146 = .ok (.isub, 1) := by decide +kernel
theorem dX9_split_147 : decode cX9_split 147 = .ok (.iaload, 1) := by decide +kernel
theorem dX9_split_148 : decode cX9_split 148 = .ok (.iconst 1, 1) := by decide +kernel
theorem dX9_split_149 : decode cX9_split 149 = .ok (.if_icmp .ne 4, 3) := by decide +kernel
theorem dX9_split_152 : decode cX9_split 152 = .ok (.return_, 1) := by decide +kernel
theorem dX9_split_153 : decode cX9_split 153 = .ok (.iload 6, 2) := by decide +kernel
theorem dX9_split_155 : decode cX9_split 155 = .ok (.istore_n 3, 1) := by decide +kernel
theorem dX9_split_156 : decode cX9_split 156 = .ok (.iinc 4 1, 3) := by decide +kernel
theorem dX9_split_159 : decode cX9_split 159 = .ok (.goto (-149), 3) := by decide +kernel
theorem dX9_split_162 : decode cX9_split 162 = .ok (.aload_n 0, 1) := by decide +kernel
theorem dX9_split_163 : decode cX9_split 163 = .ok (.iconst 0, 1) := by decide +kernel
theorem dX9_split_164 : decode cX9_split 164 = .ok (.iload_n 2, 1) := by decide +kernel
theorem dX9_split_165 : decode cX9_split 165 = .ok (.invokevirtual 39, 3) := by decide +kernel
theorem dX9_split_168 : decode cX9_split 168 = .ok (.return_, 1) := by decide +kernel
theorem dX9_add_0 : decode cX9_add 0 = .ok (.aload_n 0, 1) := by decide +kernel
theorem dX9_add_1 : decode cX9_add 1 = .ok (.getfield 18, 3) := by decide +kernel
theorem dX9_add_4 : decode cX9_add 4 = .ok (.aload_n 0, 1) := by decide +kernel
theorem dX9_add_5 : decode cX9_add 5 = .ok (.getfield 9, 3) := by decide +kernel
theorem dX9_add_8 : decode cX9_add 8 = .ok (.arraylength, 1) := by decide +kernel
theorem dX9_add_9 : decode cX9_add 9 = .ok (.if_icmp .ge 33, 3) := by decide +kernel
theorem dX9_add_12 : decode cX9_add 12 = .ok (.aload_n 0, 1) := by decide +kernel
theorem dX9_add_13 : decode cX9_add 13 = .ok (.getfield 9, 3) := by decide +kernel
theorem dX9_add_16 : decode cX9_add 16 = .ok (.aload_n 0, 1) := by decide +kernel
theorem dX9_add_17 : decode cX9_add 17 = .ok (.getfield 18, 3) := by decide +kernel
theorem dX9_add_20 : decode cX9_add 20 = .ok (.iload_n 1, 1) := by decide +kernel
theorem dX9_add_21 : decode cX9_add 21 = .ok (.iastore, 1) := by decide +kernel
theorem dX9_add_22 : decode cX9_add 22 = .ok (.aload_n 0, 1) := by decide +kernel
theorem dX9_add_23 : decode cX9_add 23 = .ok (.getfield 15, 3) := by decide +kernel
theorem dX9_add_26 : decode cX9_add 26 = .ok (.aload_n 0, 1) := by decide +kernel
theorem dX9_add_27 : decode cX9_add 27 = .ok (.getfield 18, 3) := by decide +kernel
theorem dX9_add_30 : decode cX9_add 30 = .ok (.iload_n 2, 1) := by decide +kernel
theorem dX9_add_31 : decode cX9_add 31 = .ok (.iastore, 1) := by decide +kernel
theorem dX9_add_32 : decode cX9_add 32 = .ok (.aload_n 0, 1) := by decide +kernel
theorem dX9_add_33 : decode cX9_add 33 = .ok (.dup, 1) := by decide +kernel
theorem dX9_add_34 : decode cX9_add 34 = .ok (.getfield 18, 3) := by decide +kernel
theorem dX9_add_37 : decode cX9_add 37 = .ok (.iconst 1, 1) := by decide +kernel
theorem dX9_add_38 : decode cX9_add 38 = .ok (.iadd, 1) := by decide +kernel
theorem dX9_add_39 : decode cX9_add 39 = .ok (.putfield 18, 3) := by decide +kernel
theorem dX9_add_42 : decode cX9_add 42 = .ok (.return_, 1) := by decide +kernel
theorem dX9_runEnd_0 : decode cX9_runEnd 0 = .ok (.aload_n 0, 1) := by decide +kernel
theorem dX9_runEnd_1 : decode cX9_runEnd 1 = .ok (.iload_n 1, 1) := by decide +kernel
theorem dX9_runEnd_2 : decode cX9_runEnd 2 = .ok (.baload, 1) := by decide +kernel
theorem dX9_runEnd_3 : decode cX9_runEnd 3 = .ok (.invokestatic 22, 3) := by decide +kernel
theorem dX9_runEnd_6 : decode cX9_runEnd 6 = .ok (.istore_n 3, 1) := by decide +kernel
theorem dX9_runEnd_7 : decode cX9_runEnd 7 = .ok (.iload_n 1, 1) := by decide +kernel
theorem dX9_runEnd_8 : decode cX9_runEnd 8 = .ok (.iconst 1, 1) := by decide +kernel
theorem dX9_runEnd_9 : decode cX9_runEnd 9 = .ok (.iadd, 1) := by decide +kernel
theorem dX9_runEnd_10 : decode cX9_runEnd 10 = .ok (.istore 4, 2) := by decide +kernel
theorem dX9_runEnd_12 : decode cX9_runEnd 12 = .ok (.iload 4, 2) := by decide +kernel
theorem dX9_runEnd_14 : decode cX9_runEnd 14 = .ok (.iload_n 2, 1) := by decide +kernel
theorem dX9_runEnd_15 : decode cX9_runEnd 15 = .ok (.if_icmp .ge 36, 3) := by decide +kernel
theorem dX9_runEnd_18 : decode cX9_runEnd 18 = .ok (.iload_n 3, 1) := by decide +kernel
theorem dX9_runEnd_19 : decode cX9_runEnd 19 = .ok (.ifCond .eq 16, 3) := by decide +kernel
theorem dX9_runEnd_22 : decode cX9_runEnd 22 = .ok (.aload_n 0, 1) := by decide +kernel
theorem dX9_runEnd_23 : decode cX9_runEnd 23 = .ok (.iload 4, 2) := by decide +kernel
theorem dX9_runEnd_25 : decode cX9_runEnd 25 = .ok (.baload, 1) := by decide +kernel
theorem dX9_runEnd_26 : decode cX9_runEnd 26 = .ok (.invokestatic 22, 3) := by decide +kernel
theorem dX9_runEnd_29 : decode cX9_runEnd 29 = .ok (.ifCond .eq 22, 3) := by decide +kernel
theorem dX9_runEnd_32 : decode cX9_runEnd 32 = .ok (.goto 13, 3) := by decide +kernel
theorem dX9_runEnd_35 : decode cX9_runEnd 35 = .ok (.aload_n 0, 1) := by decide +kernel
theorem dX9_runEnd_36 : decode cX9_runEnd 36 = .ok (.iload 4, 2) := by decide +kernel
theorem dX9_runEnd_38 : decode cX9_runEnd 38 = .ok (.baload, 1) := by decide +kernel
theorem dX9_runEnd_39 : decode cX9_runEnd 39 = .ok (.invokestatic 26, 3) := by decide +kernel
theorem dX9_runEnd_42 : decode cX9_runEnd 42 = .ok (.ifCond .eq 9, 3) := by decide +kernel
theorem dX9_runEnd_45 : decode cX9_runEnd 45 = .ok (.iinc 4 1, 3) := by decide +kernel
theorem dX9_runEnd_48 : decode cX9_runEnd 48 = .ok (.goto (-36), 3) := by decide +kernel
theorem dX9_runEnd_51 : decode cX9_runEnd 51 = .ok (.iload 4, 2) := by decide +kernel
theorem dX9_runEnd_53 : decode cX9_runEnd 53 = .ok (.ireturn, 1) := by decide +kernel
theorem dX9_isLetter_0 : decode cX9_isLetter 0 = .ok (.iload_n 0, 1) := by decide +kernel
theorem dX9_isLetter_1 : decode cX9_isLetter 1 = .ok (.bipush 97, 2) := by decide +kernel
theorem dX9_isLetter_3 : decode cX9_isLetter 3 = .ok (.if_icmp .lt 13, 3) := by decide +kernel
theorem dX9_isLetter_6 : decode cX9_isLetter 6 = .ok (.iload_n 0, 1) := by decide +kernel
theorem dX9_isLetter_7 : decode cX9_isLetter 7 = .ok (.bipush 122, 2) := by decide +kernel
theorem dX9_isLetter_9 : decode cX9_isLetter 9 = .ok (.if_icmp .gt 7, 3) := by decide +kernel
theorem dX9_isLetter_12 : decode cX9_isLetter 12 = .ok (.iconst 1, 1) := by decide +kernel
theorem dX9_isLetter_13 : decode cX9_isLetter 13 = .ok (.goto 4, 3) := by decide +kernel
theorem dX9_isLetter_16 : decode cX9_isLetter 16 = .ok (.iconst 0, 1) := by decide +kernel
theorem dX9_isLetter_17 : decode cX9_isLetter 17 = .ok (.ireturn, 1) := by decide +kernel
theorem dX9_isDigit_0 : decode cX9_isDigit 0 = .ok (.iload_n 0, 1) := by decide +kernel
theorem dX9_isDigit_1 : decode cX9_isDigit 1 = .ok (.bipush 48, 2) := by decide +kernel
theorem dX9_isDigit_3 : decode cX9_isDigit 3 = .ok (.if_icmp .lt 13, 3) := by decide +kernel
theorem dX9_isDigit_6 : decode cX9_isDigit 6 = .ok (.iload_n 0, 1) := by decide +kernel
theorem dX9_isDigit_7 : decode cX9_isDigit 7 = .ok (.bipush 57, 2) := by decide +kernel
theorem dX9_isDigit_9 : decode cX9_isDigit 9 = .ok (.if_icmp .gt 7, 3) := by decide +kernel
theorem dX9_isDigit_12 : decode cX9_isDigit 12 = .ok (.iconst 1, 1) := by decide +kernel
theorem dX9_isDigit_13 : decode cX9_isDigit 13 = .ok (.goto 4, 3) := by decide +kernel
theorem dX9_isDigit_16 : decode cX9_isDigit 16 = .ok (.iconst 0, 1) := by decide +kernel
theorem dX9_isDigit_17 : decode cX9_isDigit 17 = .ok (.ireturn, 1) := by decide +kernel
theorem dX9_numberOf_0 : decode cX9_numberOf 0 = .ok (.iload_n 2, 1) := by decide +kernel
theorem dX9_numberOf_1 : decode cX9_numberOf 1 = .ok (.iload_n 1, 1) := by decide +kernel
theorem dX9_numberOf_2 : decode cX9_numberOf 2 = .ok (.isub, 1) := by decide +kernel
theorem dX9_numberOf_3 : decode cX9_numberOf 3 = .ok (.iconst 3, 1) := by decide +kernel
theorem dX9_numberOf_4 : decode cX9_numberOf 4 = .ok (.if_icmp .le 5, 3) := by decide +kernel
theorem dX9_numberOf_7 : decode cX9_numberOf 7 = .ok (.iconst 1, 1) := by decide +kernel
theorem dX9_numberOf_8 : decode cX9_numberOf 8 = .ok (.ireturn, 1) := by decide +kernel
theorem dX9_numberOf_9 : decode cX9_numberOf 9 = .ok (.iconst 0, 1) := by decide +kernel
theorem dX9_numberOf_10 : decode cX9_numberOf 10 = .ok (.istore_n 3, 1) := by decide +kernel
theorem dX9_numberOf_11 : decode cX9_numberOf 11 = .ok (.iload_n 1, 1) := by decide +kernel
theorem dX9_numberOf_12 : decode cX9_numberOf 12 = .ok (.istore 4, 2) := by decide +kernel
theorem dX9_numberOf_14 : decode cX9_numberOf 14 = .ok (.iload 4, 2) := by decide +kernel
theorem dX9_numberOf_16 : decode cX9_numberOf 16 = .ok (.iload_n 2, 1) := by decide +kernel
theorem dX9_numberOf_17 : decode cX9_numberOf 17 = .ok (.if_icmp .ge 22, 3) := by decide +kernel
theorem dX9_numberOf_20 : decode cX9_numberOf 20 = .ok (.iload_n 3, 1) := by decide +kernel
theorem dX9_numberOf_21 : decode cX9_numberOf 21 = .ok (.bipush 10, 2) := by decide +kernel
theorem dX9_numberOf_23 : decode cX9_numberOf 23 = .ok (.imul, 1) := by decide +kernel
theorem dX9_numberOf_24 : decode cX9_numberOf 24 = .ok (.aload_n 0, 1) := by decide +kernel
theorem dX9_numberOf_25 : decode cX9_numberOf 25 = .ok (.iload 4, 2) := by decide +kernel
theorem dX9_numberOf_27 : decode cX9_numberOf 27 = .ok (.baload, 1) := by decide +kernel
theorem dX9_numberOf_28 : decode cX9_numberOf 28 = .ok (.iadd, 1) := by decide +kernel
theorem dX9_numberOf_29 : decode cX9_numberOf 29 = .ok (.bipush 48, 2) := by decide +kernel
theorem dX9_numberOf_31 : decode cX9_numberOf 31 = .ok (.isub, 1) := by decide +kernel
theorem dX9_numberOf_32 : decode cX9_numberOf 32 = .ok (.istore_n 3, 1) := by decide +kernel
theorem dX9_numberOf_33 : decode cX9_numberOf 33 = .ok (.iinc 4 1, 3) := by decide +kernel
theorem dX9_numberOf_36 : decode cX9_numberOf 36 = .ok (.goto (-22), 3) := by decide +kernel
theorem dX9_numberOf_39 : decode cX9_numberOf 39 = .ok (.sipush 1000, 3) := by decide +kernel
theorem dX9_numberOf_42 : decode cX9_numberOf 42 = .ok (.iload_n 3, 1) := by decide +kernel
theorem dX9_numberOf_43 : decode cX9_numberOf 43 = .ok (.iadd, 1) := by decide +kernel
theorem dX9_numberOf_44 : decode cX9_numberOf 44 = .ok (.ireturn, 1) := by decide +kernel
theorem dX9_wordOf_0 : decode cX9_wordOf 0 = .ok (.sipush 200, 3) := by decide +kernel
theorem dX9_wordOf_3 : decode cX9_wordOf 3 = .ok (.istore_n 3, 1) := by decide +kernel
theorem dX9_wordOf_4 : decode cX9_wordOf 4 = .ok (.iload_n 1, 1) := by decide +kernel
theorem dX9_wordOf_5 : decode cX9_wordOf 5 = .ok (.istore 4, 2) := by decide +kernel
theorem dX9_wordOf_7 : decode cX9_wordOf 7 = .ok (.iconst 1, 1) := by decide +kernel
theorem dX9_wordOf_8 : decode cX9_wordOf 8 = .ok (.istore 5, 2) := by decide +kernel
theorem dX9_wordOf_10 : decode cX9_wordOf 10 = .ok (.iconst 0, 1) := by decide +kernel
theorem dX9_wordOf_11 : decode cX9_wordOf 11 = .ok (.istore 6, 2) := by decide +kernel
theorem dX9_wordOf_13 : decode cX9_wordOf 13 = .ok (.iload 6, 2) := by decide +kernel
theorem dX9_wordOf_15 : decode cX9_wordOf 15 = .ok (.ldc 51, 2) := by decide +kernel
theorem dX9_wordOf_17 : decode cX9_wordOf 17 = .ok (.invokevirtual 53, 3) := by decide +kernel
theorem dX9_wordOf_20 : decode cX9_wordOf 20 = .ok (.if_icmp .ge 80, 3) := by decide +kernel
theorem dX9_wordOf_23 : decode cX9_wordOf 23 = .ok (.ldc 51, 2) := by decide +kernel
theorem dX9_wordOf_25 : decode cX9_wordOf 25 = .ok (.iload 6, 2) := by decide +kernel
theorem dX9_wordOf_27 : decode cX9_wordOf 27 = .ok (.invokevirtual 57, 3) := by decide +kernel
theorem dX9_wordOf_30 : decode cX9_wordOf 30 = .ok (.istore 7, 2) := by decide +kernel
theorem dX9_wordOf_32 : decode cX9_wordOf 32 = .ok (.iload 7, 2) := by decide +kernel
theorem dX9_wordOf_34 : decode cX9_wordOf 34 = .ok (.bipush 32, 2) := by decide +kernel
theorem dX9_wordOf_36 : decode cX9_wordOf 36 = .ok (.if_icmp .eq 36, 3) := by decide +kernel
theorem dX9_wordOf_39 : decode cX9_wordOf 39 = .ok (.iload 5, 2) := by decide +kernel
theorem dX9_wordOf_41 : decode cX9_wordOf 41 = .ok (.ifCond .eq 22, 3) := by decide +kernel
theorem dX9_wordOf_44 : decode cX9_wordOf 44 = .ok (.iload 4, 2) := by decide +kernel
theorem dX9_wordOf_46 : decode cX9_wordOf 46 = .ok (.iload_n 2, 1) := by decide +kernel
theorem dX9_wordOf_47 : decode cX9_wordOf 47 = .ok (.if_icmp .ge 16, 3) := by decide +kernel
theorem dX9_wordOf_50 : decode cX9_wordOf 50 = .ok (.aload_n 0, 1) := by decide +kernel
theorem dX9_wordOf_51 : decode cX9_wordOf 51 = .ok (.iload 4, 2) := by decide +kernel
theorem dX9_wordOf_53 : decode cX9_wordOf 53 = .ok (.baload, 1) := by decide +kernel
theorem dX9_wordOf_54 : decode cX9_wordOf 54 = .ok (.iload 7, 2) := by decide +kernel
theorem dX9_wordOf_56 : decode cX9_wordOf 56 = .ok (.if_icmp .ne 7, 3) := by decide +kernel
theorem dX9_wordOf_59 : decode cX9_wordOf 59 = .ok (.iconst 1, 1) := by decide +kernel
theorem dX9_wordOf_60 : decode cX9_wordOf 60 = .ok (.goto 4, 3) := by decide +kernel
theorem dX9_wordOf_63 : decode cX9_wordOf 63 = .ok (.iconst 0, 1) := by decide +kernel
theorem dX9_wordOf_64 : decode cX9_wordOf 64 = .ok (.istore 5, 2) := by decide +kernel
theorem dX9_wordOf_66 : decode cX9_wordOf 66 = .ok (.iinc 4 1, 3) := by decide +kernel
theorem dX9_wordOf_69 : decode cX9_wordOf 69 = .ok (.goto 25, 3) := by decide +kernel
theorem dX9_wordOf_72 : decode cX9_wordOf 72 = .ok (.iload 5, 2) := by decide +kernel
theorem dX9_wordOf_74 : decode cX9_wordOf 74 = .ok (.ifCond .eq 11, 3) := by decide +kernel
theorem dX9_wordOf_77 : decode cX9_wordOf 77 = .ok (.iload 4, 2) := by decide +kernel
theorem dX9_wordOf_79 : decode cX9_wordOf 79 = .ok (.iload_n 2, 1) := by decide +kernel
theorem dX9_wordOf_80 : decode cX9_wordOf 80 = .ok (.if_icmp .ne 5, 3) := by decide +kernel
theorem dX9_wordOf_83 : decode cX9_wordOf 83 = .ok (.iload_n 3, 1) := by decide +kernel
theorem dX9_wordOf_84 : decode cX9_wordOf 84 = .ok (.ireturn, 1) := by decide +kernel
theorem dX9_wordOf_85 : decode cX9_wordOf 85 = .ok (.iinc 3 1, 3) := by decide +kernel
theorem dX9_wordOf_88 : decode cX9_wordOf 88 = .ok (.iload_n 1, 1) := by decide +kernel
theorem dX9_wordOf_89 : decode cX9_wordOf 89 = .ok (.istore 4, 2) := by decide +kernel
theorem dX9_wordOf_91 : decode cX9_wordOf 91 = .ok (.iconst 1, 1) := by decide +kernel
theorem dX9_wordOf_92 : decode cX9_wordOf 92 = .ok (.istore 5, 2) := by decide +kernel
theorem dX9_wordOf_94 : decode cX9_wordOf 94 = .ok (.iinc 6 1, 3) := by decide +kernel
theorem dX9_wordOf_97 : decode cX9_wordOf 97 = .ok (.goto (-84), 3) := by decide +kernel
theorem dX9_wordOf_100 : decode cX9_wordOf 100 = .ok (.iconst 2, 1) := by decide +kernel
theorem dX9_wordOf_101 : decode cX9_wordOf 101 = .ok (.ireturn, 1) := by decide +kernel
theorem dX10_init_0 : decode cX10_init 0 = .ok (.aload_n 0, 1) := by decide +kernel
theorem dX10_init_1 : decode cX10_init 1 = .ok (.invokespecial 3, 3) := by decide +kernel
theorem dX10_init_4 : decode cX10_init 4 = .ok (.aload_n 0, 1) := by decide +kernel
theorem dX10_init_5 : decode cX10_init 5 = .ok (.bipush 40, 2) := by decide +kernel
theorem dX10_init_7 : decode cX10_init 7 = .ok (.newarray .long, 2) := by decide +kernel
theorem dX10_init_9 : decode cX10_init 9 = .ok (.putfield 9, 3) := by decide +kernel
theorem dX10_init_12 : decode cX10_init 12 = .ok (.aload_n 0, 1) := by decide +kernel
theorem dX10_init_13 : decode cX10_init 13 = .ok (.iconst (-1), 1) := by decide +kernel
theorem dX10_init_14 : decode cX10_init 14 = .ok (.putfield 15, 3) := by decide +kernel
theorem dX10_init_17 : decode cX10_init 17 = .ok (.return_, 1) := by decide +kernel
theorem dX10_isMissing_0 : decode cX10_isMissing 0 = .ok (.aload_n 0, 1) := by decide +kernel
theorem dX10_isMissing_1 : decode cX10_isMissing 1 = .ok (.getfield 15, 3) := by decide +kernel
theorem dX10_isMissing_4 : decode cX10_isMissing 4 = .ok (.iconst (-1), 1) := by decide +kernel
theorem dX10_isMissing_5 : decode cX10_isMissing 5 = .ok (.if_icmp .ne 7, 3) := by decide +kernel
theorem dX10_isMissing_8 : decode cX10_isMissing 8 = .ok (.iconst 1, 1) := by decide +kernel
theorem dX10_isMissing_9 : decode cX10_isMissing 9 = .ok (.goto 4, 3) := by decide +kernel
theorem dX10_isMissing_12 : decode cX10_isMissing 12 = .ok (.iconst 0, 1) := by decide +kernel
theorem dX10_isMissing_13 : decode cX10_isMissing 13 = .ok (.ireturn, 1) := by decide +kernel
theorem dX10_begin_0 : decode cX10_begin 0 = .ok (.aload_n 0, 1) := by decide +kernel
theorem dX10_begin_1 : decode cX10_begin 1 = .ok (.iload_n 1, 1) := by decide +kernel
theorem dX10_begin_2 : decode cX10_begin 2 = .ok (.putfield 19, 3) := by decide +kernel
theorem dX10_begin_5 : decode cX10_begin 5 = .ok (.aload_n 0, 1) := by decide +kernel
theorem dX10_begin_6 : decode cX10_begin 6 = .ok (.iload_n 2, 1) := by decide +kernel
theorem dX10_begin_7 : decode cX10_begin 7 = .ok (.putfield 15, 3) := by decide +kernel
theorem dX10_begin_10 : decode cX10_begin 10 = .ok (.aload_n 0, 1) := by decide +kernel
theorem dX10_begin_11 : decode cX10_begin 11 = .ok (.getfield 9, 3) := by decide +kernel
theorem dX10_begin_14 : decode cX10_begin 14 = .ok (.lconst 0, 1) := by decide +kernel
theorem dX10_begin_15 : decode cX10_begin 15 = .ok (.invokestatic 22, 3) := by decide +kernel
theorem dX10_begin_18 : decode cX10_begin 18 = .ok (.return_, 1) := by decide +kernel
theorem dX10_put_0 : decode cX10_put 0 = .ok (.aload_n 0, 1) := by decide +kernel
theorem dX10_put_1 : decode cX10_put 1 = .ok (.getfield 9, 3) := by decide +kernel
theorem dX10_put_4 : decode cX10_put 4 = .ok (.iload_n 1, 1) := by decide +kernel
theorem dX10_put_5 : decode cX10_put 5 = .ok (.aload_n 0, 1) := by decide +kernel
theorem dX10_put_6 : decode cX10_put 6 = .ok (.lload_n 2, 1) := by decide +kernel
theorem dX10_put_7 : decode cX10_put 7 = .ok (.invokevirtual 28, 3) := by decide +kernel
theorem dX10_put_10 : decode cX10_put 10 = .ok (.lastore, 1) := by decide +kernel
theorem dX10_put_11 : decode cX10_put 11 = .ok (.aload_n 0, 1) := by decide +kernel
theorem dX10_put_12 : decode cX10_put 12 = .ok (.getfield 9, 3) := by decide +kernel
theorem dX10_put_15 : decode cX10_put 15 = .ok (.iload_n 1, 1) := by decide +kernel
theorem dX10_put_16 : decode cX10_put 16 = .ok (.laload, 1) := by decide +kernel
theorem dX10_put_17 : decode cX10_put 17 = .ok (.lreturn, 1) := by decide +kernel
theorem dX10_cut_0 : decode cX10_cut 0 = .ok (.aload_n 0, 1) := by decide +kernel
theorem dX10_cut_1 : decode cX10_cut 1 = .ok (.getfield 19, 3) := by decide +kernel
theorem dX10_cut_4 : decode cX10_cut 4 = .ok (.tableswitch 42 0 2 #[28, 33, 38], 28) := by decide +kernel
theorem dX10_cut_32 : decode cX10_cut 32 = .ok (.lload_n 1, 1) := by decide +kernel
theorem dX10_cut_33 : decode cX10_cut 33 = .ok (.l2i, 1) := by decide +kernel
theorem dX10_cut_34 : decode cX10_cut 34 = .ok (.i2b, 1) := by decide +kernel
theorem dX10_cut_35 : decode cX10_cut 35 = .ok (.i2l, 1) := by decide +kernel
theorem dX10_cut_36 : decode cX10_cut 36 = .ok (.lreturn, 1) := by decide +kernel
theorem dX10_cut_37 : decode cX10_cut 37 = .ok (.lload_n 1, 1) := by decide +kernel
theorem dX10_cut_38 : decode cX10_cut 38 = .ok (.l2i, 1) := by decide +kernel
theorem dX10_cut_39 : decode cX10_cut 39 = .ok (.i2s, 1) := by decide +kernel
theorem dX10_cut_40 : decode cX10_cut 40 = .ok (.i2l, 1) := by decide +kernel
theorem dX10_cut_41 : decode cX10_cut 41 = .ok (.lreturn, 1) := by decide +kernel
theorem dX10_cut_42 : decode cX10_cut 42 = .ok (.lload_n 1, 1) := by decide +kernel
theorem dX10_cut_43 : decode cX10_cut 43 = .ok (.l2i, 1) := by decide +kernel
theorem dX10_cut_44 : decode cX10_cut 44 = .ok (.i2l, 1) := by decide +kernel
theorem dX10_cut_45 : decode cX10_cut 45 = .ok (.lreturn, 1) := by decide +kernel
theorem dX10_cut_46 : decode cX10_cut 46 = .ok (.lload_n 1, 1) := by decide +kernel
theorem dX10_cut_47 : decode cX10_cut 47 = .ok (.lreturn, 1) := by decide +kernel
theorem dJ11_isValidCodePoint_9a6ad_0 : decode cJ11_isValidCodePoint_9a6ad 0 = .ok (.iload_n 0, 1) := by decide +kernel
theorem dJ11_isValidCodePoint_9a6ad_1 : decode cJ11_isValidCodePoint_9a6ad 1 = .ok (.bipush 16, 2) := by decide +kernel
theorem dJ11_isValidCodePoint_9a6ad_3 : decode cJ11_isValidCodePoint_9a6ad 3 = .ok (.iushr, 1) := by decide +kernel
theorem dJ11_isValidCodePoint_9a6ad_4 : decode cJ11_isValidCodePoint_9a6ad 4 = .ok (.istore_n 1, 1) := by decide +kernel
theorem dJ11_isValidCodePoint_9a6ad_5 : decode cJ11_isValidCodePoint_9a6ad 5 = .ok (.iload_n 1, 1) := by decide +kernel
theorem dJ11_isValidCodePoint_9a6ad_6 : decode cJ11_isValidCodePoint_9a6ad 6 = .ok (.bipush 17, 2) := by decide +kernel
theorem dJ11_isValidCodePoint_9a6ad_8 : decode cJ11_isValidCodePoint_9a6ad 8 = .ok (.if_icmp .ge 7, 3) := by decide +kernel
theorem dJ11_isValidCodePoint_9a6ad_11 : decode cJ11_isValidCodePoint_9a6ad 11 = .ok (.iconst 1, 1) := by decide +kernel
theorem dJ11_isValidCodePoint_9a6ad_12 : decode cJ11_isValidCodePoint_9a6ad 12 = .ok (.goto 4, 3) := by decide +kernel
theorem dJ11_isValidCodePoint_9a6ad_15 : decode cJ11_isValidCodePoint_9a6ad 15 = .ok (.iconst 0, 1) := by decide +kernel
theorem dJ11_isValidCodePoint_9a6ad_16 : decode cJ11_isValidCodePoint_9a6ad 16 = .ok (.ireturn, 1) := by decide +kernel
theorem dJ11_highSurrogate_5068e_0 : decode cJ11_highSurrogate_5068e 0 = .ok (.iload_n 0, 1) := by decide +kernel
theorem dJ11_highSurrogate_5068e_1 : decode cJ11_highSurrogate_5068e 1 = .ok (.bipush 10, 2) := by decide +kernel
theorem dJ11_highSurrogate_5068e_3 : decode cJ11_highSurrogate_5068e 3 = .ok (.iushr, 1) := by decide +kernel
theorem dJ11_highSurrogate_5068e_4 : decode cJ11_highSurrogate_5068e 4 = .ok (.ldc 110, 2) := by decide +kernel
theorem dJ11_highSurrogate_5068e_6 : decode cJ11_highSurrogate_5068e 6 = .ok (.iadd, 1) := by decide +kernel
theorem dJ11_highSurrogate_5068e_7 : decode cJ11_highSurrogate_5068e 7 = .ok (.i2c, 1) := by decide +kernel
theorem dJ11_highSurrogate_5068e_8 : decode cJ11_highSurrogate_5068e 8 = .ok (.ireturn, 1) := by decide +kernel
theorem dJ11_lowSurrogate_5068e_0 : decode cJ11_lowSurrogate_5068e 0 = .ok (.iload_n 0, 1) := by decide +kernel
theorem dJ11_lowSurrogate_5068e_1 : decode cJ11_lowSurrogate_5068e 1 = .ok (.sipush 1023, 3) := by decide +kernel
theorem dJ11_lowSurrogate_5068e_4 : decode cJ11_lowSurrogate_5068e 4 = .ok (.iand, 1) := by decide +kernel
theorem dJ11_lowSurrogate_5068e_5 : decode cJ11_lowSurrogate_5068e 5 = .ok (.ldc 76, 2) := by decide +kernel
theorem dJ11_lowSurrogate_5068e_7 : decode cJ11_lowSurrogate_5068e 7 = .ok (.iadd, 1) := by decide +kernel
theorem dJ11_lowSurrogate_5068e_8 : decode cJ11_lowSurrogate_5068e 8 = .ok (.i2c, 1) := by decide +kernel
theorem dJ11_lowSurrogate_5068e_9 : decode cJ11_lowSurrogate_5068e 9 = .ok (.ireturn, 1) := by decide +kernel
theorem dJ6_bitCount_0f7a4_0 : decode cJ6_bitCount_0f7a4 0 = .ok (.iload_n 0, 1) := by decide +kernel
theorem dJ6_bitCount_0f7a4_1 : decode cJ6_bitCount_0f7a4 1 = .ok (.iload_n 0, 1) := by decide +kernel
theorem dJ6_bitCount_0f7a4_2 : decode cJ6_bitCount_0f7a4 2 = .ok (.iconst 1, 1) := by decide +kernel
theorem dJ6_bitCount_0f7a4_3 : decode cJ6_bitCount_0f7a4 3 = .ok (.iushr, 1) := by decide +kernel
theorem dJ6_bitCount_0f7a4_4 : decode cJ6_bitCount_0f7a4 4 = .ok (.ldc_w 265, 3) := by decide +kernel
theorem dJ6_bitCount_0f7a4_7 : decode cJ6_bitCount_0f7a4 7 = .ok (.iand, 1) := by decide +kernel
theorem dJ6_bitCount_0f7a4_8 : decode cJ6_bitCount_0f7a4 8 = .ok (.isub, 1) := by decide +kernel
theorem dJ6_bitCount_0f7a4_9 : decode cJ6_bitCount_0f7a4 9 = .ok (.istore_n 0, 1) := by decide +kernel
theorem dJ6_bitCount_0f7a4_10 : decode cJ6_bitCount_0f7a4 10 = .ok (.iload_n 0, 1) := by decide +kernel
theorem dJ6_bitCount_0f7a4_11 : decode cJ6_bitCount_0f7a4 11 = .ok (.ldc_w 266, 3) := by decide +kernel
theorem dJ6_bitCount_0f7a4_14 : decode cJ6_bitCount_0f7a4 14 = .ok (.iand, 1) := by decide +kernel
theorem dJ6_bitCount_0f7a4_15 : decode cJ6_bitCount_0f7a4 15 = .ok (.iload_n 0, 1) := by decide +kernel
theorem dJ6_bitCount_0f7a4_16 : decode cJ6_bitCount_0f7a4 16 = .ok (.iconst 2, 1) := by decide +kernel
theorem dJ6_bitCount_0f7a4_17 : decode cJ6_bitCount_0f7a4 17 = .ok (.iushr, 1) := by decide +kernel
theorem dJ6_bitCount_0f7a4_18 : decode cJ6_bitCount_0f7a4 18 = .ok (.ldc_w 266, 3) := by decide +kernel
theorem dJ6_bitCount_0f7a4_21 : decode cJ6_bitCount_0f7a4 21 = .ok (.iand, 1) := by decide +kernel
theorem dJ6_bitCount_0f7a4_22 : decode cJ6_bitCount_0f7a4 22 = .ok (.iadd, 1) := by decide +kernel
theorem dJ6_bitCount_0f7a4_23 : decode cJ6_bitCount_0f7a4 23 = .ok (.istore_n 0, 1) := by decide +kernel
theorem dJ6_bitCount_0f7a4_24 : decode cJ6_bitCount_0f7a4 24 = .ok (.iload_n 0, 1) := by decide +kernel
theorem dJ6_bitCount_0f7a4_25 : decode cJ6_bitCount_0f7a4 25 = .ok (.iload_n 0, 1) := by decide +kernel
theorem dJ6_bitCount_0f7a4_26 : decode cJ6_bitCount_0f7a4 26 = .ok (.iconst 4, 1) := by decide +kernel
theorem dJ6_bitCount_0f7a4_27 : decode cJ6_bitCount_0f7a4 27 = .ok (.iushr, 1) := by decide +kernel
theorem dJ6_bitCount_0f7a4_28 : decode cJ6_bitCount_0f7a4 28 = .ok (.iadd, 1) := by decide +kernel
theorem dJ6_bitCount_0f7a4_29 : decode cJ6_bitCount_0f7a4 29 = .ok (.ldc_w 267, 3) := by decide +kernel
theorem dJ6_bitCount_0f7a4_32 : decode cJ6_bitCount_0f7a4 32 = .ok (.iand, 1) := by decide +kernel
theorem dJ6_bitCount_0f7a4_33 : decode cJ6_bitCount_0f7a4 33 = .ok (.istore_n 0, 1) := by decide +kernel
theorem dJ6_bitCount_0f7a4_34 : decode cJ6_bitCount_0f7a4 34 = .ok (.iload_n 0, 1) := by decide +kernel
theorem dJ6_bitCount_0f7a4_35 : decode cJ6_bitCount_0f7a4 35 = .ok (.iload_n 0, 1) := by decide +kernel
theorem dJ6_bitCount_0f7a4_36 : decode cJ6_bitCount_0f7a4 36 = .ok (.bipush 8, 2) := by decide +kernel
theorem dJ6_bitCount_0f7a4_38 : decode cJ6_bitCount_0f7a4 38 = .ok (.iushr, 1) := by decide +kernel
theorem dJ6_bitCount_0f7a4_39 : decode cJ6_bitCount_0f7a4 39 = .ok (.iadd, 1) := by decide +kernel
theorem dJ6_bitCount_0f7a4_40 : decode cJ6_bitCount_0f7a4 40 = .ok (.istore_n 0, 1) := by decide +kernel
theorem dJ6_bitCount_0f7a4_41 : decode cJ6_bitCount_0f7a4 41 = .ok (.iload_n 0, 1) := by decide +kernel
theorem dJ6_bitCount_0f7a4_42 : decode cJ6_bitCount_0f7a4 42 = .ok (.iload_n 0, 1) := by decide +kernel
theorem dJ6_bitCount_0f7a4_43 : decode cJ6_bitCount_0f7a4 43 = .ok (.bipush 16, 2) := by decide +kernel
theorem dJ6_bitCount_0f7a4_45 : decode cJ6_bitCount_0f7a4 45 = .ok (.iushr, 1) := by decide +kernel
theorem dJ6_bitCount_0f7a4_46 : decode cJ6_bitCount_0f7a4 46 = .ok (.iadd, 1) := by decide +kernel
theorem dJ6_bitCount_0f7a4_47 : decode cJ6_bitCount_0f7a4 47 = .ok (.istore_n 0, 1) := by decide +kernel
theorem dJ6_bitCount_0f7a4_48 : decode cJ6_bitCount_0f7a4 48 = .ok (.iload_n 0, 1) := by decide +kernel
theorem dJ6_bitCount_0f7a4_49 : decode cJ6_bitCount_0f7a4 49 = .ok (.bipush 63, 2) := by decide +kernel
theorem dJ6_bitCount_0f7a4_51 : decode cJ6_bitCount_0f7a4 51 = .ok (.iand, 1) := by decide +kernel
theorem dJ6_bitCount_0f7a4_52 : decode cJ6_bitCount_0f7a4 52 = .ok (.ireturn, 1) := by decide +kernel
theorem dJ9_floorMod_7cf53_0 : decode cJ9_floorMod_7cf53 0 = .ok (.iload_n 0, 1) := by decide +kernel
theorem dJ9_floorMod_7cf53_1 : decode cJ9_floorMod_7cf53 1 = .ok (.iload_n 1, 1) := by decide +kernel
theorem dJ9_floorMod_7cf53_2 : decode cJ9_floorMod_7cf53 2 = .ok (.irem, 1) := by decide +kernel
theorem dJ9_floorMod_7cf53_3 : decode cJ9_floorMod_7cf53 3 = .ok (.istore_n 2, 1) := by decide +kernel
theorem dJ9_floorMod_7cf53_4 : decode cJ9_floorMod_7cf53 4 = .ok (.iload_n 0, 1) := by decide +kernel
theorem dJ9_floorMod_7cf53_5 : decode cJ9_floorMod_7cf53 5 = .ok (.iload_n 1, 1) := by decide +kernel
theorem dJ9_floorMod_7cf53_6 : decode cJ9_floorMod_7cf53 6 = .ok (.ixor, 1) := by decide +kernel
theorem dJ9_floorMod_7cf53_7 : decode cJ9_floorMod_7cf53 7 = .ok (.ifCond .ge 11, 3) := by decide +kernel
theorem dJ9_floorMod_7cf53_10 : decode cJ9_floorMod_7cf53 10 = .ok (.iload_n 2, 1) := by decide +kernel
theorem dJ9_floorMod_7cf53_11 : decode cJ9_floorMod_7cf53 11 = .ok (.ifCond .eq 7, 3) := by decide +kernel
theorem dJ9_floorMod_7cf53_14 : decode cJ9_floorMod_7cf53 14 = .ok (.iload_n 2, 1) := by decide +kernel
theorem dJ9_floorMod_7cf53_15 : decode cJ9_floorMod_7cf53 15 = .ok (.iload_n 1, 1) := by decide +kernel
theorem dJ9_floorMod_7cf53_16 : decode cJ9_floorMod_7cf53 16 = .ok (.iadd, 1) := by decide +kernel
theorem dJ9_floorMod_7cf53_17 : decode cJ9_floorMod_7cf53 17 = .ok (.ireturn, 1) := by decide +kernel
theorem dJ9_floorMod_7cf53_18 : decode cJ9_floorMod_7cf53 18 = .ok (.iload_n 2, 1) := by decide +kernel
theorem dJ9_floorMod_7cf53_19 : decode cJ9_floorMod_7cf53 19 = .ok (.ireturn, 1) := by decide +kernel
theorem dJ9_max_7cf53_0 : decode cJ9_max_7cf53 0 = .ok (.iload_n 0, 1) := by decide +kernel
theorem dJ9_max_7cf53_1 : decode cJ9_max_7cf53 1 = .ok (.iload_n 1, 1) := by decide +kernel
theorem dJ9_max_7cf53_2 : decode cJ9_max_7cf53 2 = .ok (.if_icmp .lt 7, 3) := by decide +kernel
theorem dJ9_max_7cf53_5 : decode cJ9_max_7cf53 5 = .ok (.iload_n 0, 1) := by decide +kernel
theorem dJ9_max_7cf53_6 : decode cJ9_max_7cf53 6 = .ok (.goto 4, 3) := by decide +kernel
theorem dJ9_max_7cf53_9 : decode cJ9_max_7cf53 9 = .ok (.iload_n 1, 1) := by decide +kernel
theorem dJ9_max_7cf53_10 : decode cJ9_max_7cf53 10 = .ok (.ireturn, 1) := by decide +kernel
theorem dJ9_max_f86c9_0 : decode cJ9_max_f86c9 0 = .ok (.lload_n 0, 1) := by decide +kernel
theorem dJ9_max_f86c9_1 : decode cJ9_max_f86c9 1 = .ok (.lload_n 2, 1) := by decide +kernel
theorem dJ9_max_f86c9_2 : decode cJ9_max_f86c9 2 = .ok (.lcmp, 1) := by decide +kernel
theorem dJ9_max_f86c9_3 : decode cJ9_max_f86c9 3 = .ok (.ifCond .lt 7, 3) := by decide +kernel
theorem dJ9_max_f86c9_6 : decode cJ9_max_f86c9 6 = .ok (.lload_n 0, 1) := by decide +kernel
theorem dJ9_max_f86c9_7 : decode cJ9_max_f86c9 7 = .ok (.goto 4, 3) := by decide +kernel
theorem dJ9_max_f86c9_10 : decode cJ9_max_f86c9 10 = .ok (.lload_n 2, 1) := by decide +kernel
theorem dJ9_max_f86c9_11 : decode cJ9_max_f86c9 11 = .ok (.lreturn, 1) := by decide +kernel
theorem dJ9_min_7cf53_0 : decode cJ9_min_7cf53 0 = .ok (.iload_n 0, 1) := by decide +kernel
theorem dJ9_min_7cf53_1 : decode cJ9_min_7cf53 1 = .ok (.iload_n 1, 1) := by decide +kernel
theorem dJ9_min_7cf53_2 : decode cJ9_min_7cf53 2 = .ok (.if_icmp .gt 7, 3) := by decide +kernel
theorem dJ9_min_7cf53_5 : decode cJ9_min_7cf53 5 = .ok (.iload_n 0, 1) := by decide +kernel
theorem dJ9_min_7cf53_6 : decode cJ9_min_7cf53 6 = .ok (.goto 4, 3) := by decide +kernel
theorem dJ9_min_7cf53_9 : decode cJ9_min_7cf53 9 = .ok (.iload_n 1, 1) := by decide +kernel
theorem dJ9_min_7cf53_10 : decode cJ9_min_7cf53 10 = .ok (.ireturn, 1) := by decide +kernel
theorem dJ9_min_f86c9_0 : decode cJ9_min_f86c9 0 = .ok (.lload_n 0, 1) := by decide +kernel
theorem dJ9_min_f86c9_1 : decode cJ9_min_f86c9 1 = .ok (.lload_n 2, 1) := by decide +kernel
theorem dJ9_min_f86c9_2 : decode cJ9_min_f86c9 2 = .ok (.lcmp, 1) := by decide +kernel
theorem dJ9_min_f86c9_3 : decode cJ9_min_f86c9 3 = .ok (.ifCond .gt 7, 3) := by decide +kernel
theorem dJ9_min_f86c9_6 : decode cJ9_min_f86c9 6 = .ok (.lload_n 0, 1) := by decide +kernel
theorem dJ9_min_f86c9_7 : decode cJ9_min_f86c9 7 = .ok (.goto 4, 3) := by decide +kernel
theorem dJ9_min_f86c9_10 : decode cJ9_min_f86c9 10 = .ok (.lload_n 2, 1) := by decide +kernel
theorem dJ9_min_f86c9_11 : decode cJ9_min_f86c9 11 = .ok (.lreturn, 1) := by decide +kernel
theorem dJ0_length_8abf5_0 : decode cJ0_length_8abf5 0 = .ok (.aload_n 0, 1) := by decide +kernel
theorem dJ0_length_8abf5_1 : decode cJ0_length_8abf5 1 = .ok (.getfield 9, 3) := by decide +kernel
theorem dJ0_length_8abf5_4 : decode cJ0_length_8abf5 4 = .ok (.arraylength, 1) := by decide +kernel
theorem dJ0_length_8abf5_5 : decode cJ0_length_8abf5 5 = .ok (.aload_n 0, 1) := by decide +kernel
theorem dJ0_length_8abf5_6 : decode cJ0_length_8abf5 6 = .ok (.invokevirtual 335, 3) := by decide +kernel
theorem dJ0_length_8abf5_9 : decode cJ0_length_8abf5 9 = .ok (.ishr, 1) := by decide +kernel
theorem dJ0_length_8abf5_10 : decode cJ0_length_8abf5 10 = .ok (.ireturn, 1) := by decide +kernel
theorem dJ0_charAt_5068e_0 : decode cJ0_charAt_5068e 0 = .ok (.aload_n 0, 1) := by decide +kernel
theorem dJ0_charAt_5068e_1 : decode cJ0_charAt_5068e 1 = .ok (.invokevirtual 492, 3) := by decide +kernel
theorem dJ0_charAt_5068e_4 : decode cJ0_charAt_5068e 4 = .ok (.ifCond .eq 12, 3) := by decide +kernel
theorem dJ0_charAt_5068e_7 : decode cJ0_charAt_5068e 7 = .ok (.aload_n 0, 1) := by decide +kernel
theorem dJ0_charAt_5068e_8 : decode cJ0_charAt_5068e 8 = .ok (.getfield 9, 3) := by decide +kernel
theorem dJ0_charAt_5068e_11 : decode cJ0_charAt_5068e 11 = .ok (.iload_n 1, 1) := by decide +kernel
theorem dJ0_charAt_5068e_12 : decode cJ0_charAt_5068e 12 = .ok (.invokestatic 495, 3) := by decide +kernel
theorem dJ0_charAt_5068e_15 : decode cJ0_charAt_5068e 15 = .ok (.ireturn, 1) := by decide +kernel
theorem dJ0_charAt_5068e_16 : decode cJ0_charAt_5068e 16 = .ok (.aload_n 0, 1) := by decide +kernel
theorem dJ0_charAt_5068e_17 : decode cJ0_charAt_5068e 17 = .ok (.getfield 9, 3) := by decide +kernel
theorem dJ0_charAt_5068e_20 : decode cJ0_charAt_5068e 20 = .ok (.iload_n 1, 1) := by decide +kernel
theorem dJ0_charAt_5068e_21 : decode cJ0_charAt_5068e 21 = .ok (.invokestatic 498, 3) := by decide +kernel
theorem dJ0_charAt_5068e_24 : decode cJ0_charAt_5068e 24 = .ok (.ireturn, 1) := by decide +kernel
theorem dJ0_indexOf_0f7a4_0 : decode cJ0_indexOf_0f7a4 0 = .ok (.aload_n 0, 1) := by decide +kernel
theorem dJ0_indexOf_0f7a4_1 : decode cJ0_indexOf_0f7a4 1 = .ok (.iload_n 1, 1) := by decide +kernel
theorem dJ0_indexOf_0f7a4_2 : decode cJ0_indexOf_0f7a4 2 = .ok (.iconst 0, 1) := by decide +kernel
theorem dJ0_indexOf_0f7a4_3 : decode cJ0_indexOf_0f7a4 3 = .ok (.invokevirtual 633, 3) := by decide +kernel
theorem dJ0_indexOf_0f7a4_6 : decode cJ0_indexOf_0f7a4 6 = .ok (.ireturn, 1) := by decide +kernel
theorem dJ0_indexOf_7cf53_0 : decode cJ0_indexOf_7cf53 0 = .ok (.aload_n 0, 1) := by decide +kernel
theorem dJ0_indexOf_7cf53_1 : decode cJ0_indexOf_7cf53 1 = .ok (.invokevirtual 492, 3) := by decide +kernel
theorem dJ0_indexOf_7cf53_4 : decode cJ0_indexOf_7cf53 4 = .ok (.ifCond .eq 19, 3) := by decide +kernel
theorem dJ0_indexOf_7cf53_7 : decode cJ0_indexOf_7cf53 7 = .ok (.aload_n 0, 1) := by decide +kernel
theorem dJ0_indexOf_7cf53_8 : decode cJ0_indexOf_7cf53 8 = .ok (.getfield 9, 3) := by decide +kernel
theorem dJ0_indexOf_7cf53_11 : decode cJ0_indexOf_7cf53 11 = .ok (.iload_n 1, 1) := by decide +kernel
theorem dJ0_indexOf_7cf53_12 : decode cJ0_indexOf_7cf53 12 = .ok (.iload_n 2, 1) := by decide +kernel
theorem dJ0_indexOf_7cf53_13 : decode cJ0_indexOf_7cf53 13 = .ok (.aload_n 0, 1) := by decide +kernel
theorem dJ0_indexOf_7cf53_14 : decode cJ0_indexOf_7cf53 14 = .ok (.invokevirtual 505, 3) := by decide +kernel
theorem dJ0_indexOf_7cf53_17 : decode cJ0_indexOf_7cf53 17 = .ok (.invokestatic 637, 3) := by decide +kernel
theorem dJ0_indexOf_7cf53_20 : decode cJ0_indexOf_7cf53 20 = .ok (.goto 16, 3) := by decide +kernel
theorem dJ0_indexOf_7cf53_23 : decode cJ0_indexOf_7cf53 23 = .ok (.aload_n 0, 1) := by decide +kernel
theorem dJ0_indexOf_7cf53_24 : decode cJ0_indexOf_7cf53 24 = .ok (.getfield 9, 3) := by decide +kernel
theorem dJ0_indexOf_7cf53_27 : decode cJ0_indexOf_7cf53 27 = .ok (.iload_n 1, 1) := by decide +kernel
theorem dJ0_indexOf_7cf53_28 : decode cJ0_indexOf_7cf53 28 = .ok (.iload_n 2, 1) := by decide +kernel
theorem dJ0_indexOf_7cf53_29 : decode cJ0_indexOf_7cf53 29 = .ok (.aload_n 0, 1) := by decide +kernel
theorem dJ0_indexOf_7cf53_30 : decode cJ0_indexOf_7cf53 30 = .ok (.invokevirtual 505, 3) := by decide +kernel
theorem dJ0_indexOf_7cf53_33 : decode cJ0_indexOf_7cf53 33 = .ok (.invokestatic 640, 3) := by decide +kernel
theorem dJ0_indexOf_7cf53_36 : decode cJ0_indexOf_7cf53 36 = .ok (.ireturn, 1) := by decide +kernel
theorem dJ0_coder_7d493_0 : decode cJ0_coder_7d493 0 = .ok (.getstatic 38, 3) := by decide +kernel
theorem dJ0_coder_7d493_3 : decode cJ0_coder_7d493 3 = .ok (.ifCond .eq 10, 3) := by decide +kernel
theorem dJ0_coder_7d493_6 : decode cJ0_coder_7d493 6 = .ok (.aload_n 0, 1) := by decide +kernel
theorem dJ0_coder_7d493_7 : decode cJ0_coder_7d493 7 = .ok (.getfield 15, 3) := by decide +kernel
theorem dJ0_coder_7d493_10 : decode cJ0_coder_7d493 10 = .ok (.goto 4, 3) := by decide +kernel
theorem dJ0_coder_7d493_13 : decode cJ0_coder_7d493 13 = .ok (.iconst 1, 1) := by decide +kernel
theorem dJ0_coder_7d493_14 : decode cJ0_coder_7d493 14 = .ok (.ireturn, 1) := by decide +kernel
theorem dJ0_isLatin1_aae02_0 : decode cJ0_isLatin1_aae02 0 = .ok (.getstatic 38, 3) := by decide +kernel
theorem dJ0_isLatin1_aae02_3 : decode cJ0_isLatin1_aae02 3 = .ok (.ifCond .eq 14, 3) := by decide +kernel
theorem dJ0_isLatin1_aae02_6 : decode cJ0_isLatin1_aae02 6 = .ok (.aload_n 0, 1) := by decide +kernel
theorem dJ0_isLatin1_aae02_7 : decode cJ0_isLatin1_aae02 7 = .ok (.getfield 15, 3) := by decide +kernel
theorem dJ0_isLatin1_aae02_10 : decode cJ0_isLatin1_aae02 10 = .ok (.ifCond .ne 7, 3) := by decide +kernel
theorem dJ0_isLatin1_aae02_13 : decode cJ0_isLatin1_aae02 13 = .ok (.iconst 1, 1) := by decide +kernel
theorem dJ0_isLatin1_aae02_14 : decode cJ0_isLatin1_aae02 14 = .ok (.goto 4, 3) := by decide +kernel
theorem dJ0_isLatin1_aae02_17 : decode cJ0_isLatin1_aae02 17 = .ok (.iconst 0, 1) := by decide +kernel
theorem dJ0_isLatin1_aae02_18 : decode cJ0_isLatin1_aae02 18 = .ok (.ireturn, 1) := by decide +kernel
theorem dJ0_checkIndex_df160_0 : decode cJ0_checkIndex_df160 0 = .ok (.iload_n 0, 1) := by decide +kernel
theorem dJ0_checkIndex_df160_1 : decode cJ0_checkIndex_df160 1 = .ok (.iload_n 1, 1) := by decide +kernel
theorem dJ0_checkIndex_df160_2 : decode cJ0_checkIndex_df160 2 = .ok (.getstatic 1053, 3) := by decide +kernel
theorem dJ0_checkIndex_df160_5 : decode cJ0_checkIndex_df160 5 = .ok (.invokestatic 1059, 3) := by decide +kernel
theorem dJ0_checkIndex_df160_8 : decode cJ0_checkIndex_df160 8 = .ok (.pop, 1) := by decide +kernel
theorem dJ0_checkIndex_df160_9 : decode cJ0_checkIndex_df160 9 = .ok (.return_, 1) := by decide +kernel
theorem dJ0_checkBoundsBeginEnd_23922_0 : decode cJ0_checkBoundsBeginEnd_23922 0 = .ok (.iload_n 0, 1) := by decide +kernel
theorem dJ0_checkBoundsBeginEnd_23922_1 : decode cJ0_checkBoundsBeginEnd_23922 1 = .ok (.iload_n 1, 1) := by decide +kernel
theorem dJ0_checkBoundsBeginEnd_23922_2 : decode cJ0_checkBoundsBeginEnd_23922 2 = .ok (.iload_n 2, 1) := by decide +kernel
theorem dJ0_checkBoundsBeginEnd_23922_3 : decode cJ0_checkBoundsBeginEnd_23922 3 = .ok (.getstatic 1053, 3) := by decide +kernel
theorem dJ0_checkBoundsBeginEnd_23922_6 : decode cJ0_checkBoundsBeginEnd_23922 6 = .ok (.invokestatic 1062, 3) := by decide +kernel
theorem dJ0_checkBoundsBeginEnd_23922_9 : decode cJ0_checkBoundsBeginEnd_23922 9 = .ok (.pop, 1) := by decide +kernel
theorem dJ0_checkBoundsBeginEnd_23922_10 : decode cJ0_checkBoundsBeginEnd_23922 10 = .ok (.return_, 1) := by decide +kernel
theorem dJ1_charAt_3b067_0 : decode cJ1_charAt_3b067 0 = .ok (.iload_n 1, 1) := by decide +kernel
theorem dJ1_charAt_3b067_1 : decode cJ1_charAt_3b067 1 = .ok (.aload_n 0, 1) := by decide +kernel
theorem dJ1_charAt_3b067_2 : decode cJ1_charAt_3b067 2 = .ok (.arraylength, 1) := by decide +kernel
theorem dJ1_charAt_3b067_3 : decode cJ1_charAt_3b067 3 = .ok (.invokestatic 9, 3) := by decide +kernel
theorem dJ1_charAt_3b067_6 : decode cJ1_charAt_3b067 6 = .ok (.aload_n 0, 1) := by decide +kernel
theorem dJ1_charAt_3b067_7 : decode cJ1_charAt_3b067 7 = .ok (.iload_n 1, 1) := by decide +kernel
theorem dJ1_charAt_3b067_8 : decode cJ1_charAt_3b067 8 = .ok (.baload, 1) := by decide +kernel
theorem dJ1_charAt_3b067_9 : decode cJ1_charAt_3b067 9 = .ok (.sipush 255, 3) := by decide +kernel
theorem dJ1_charAt_3b067_12 : decode cJ1_charAt_3b067 12 = .ok (.iand, 1) := by decide +kernel
theorem dJ1_charAt_3b067_13 : decode cJ1_charAt_3b067 13 = .ok (.i2c, 1) := by decide +kernel
theorem dJ1_charAt_3b067_14 : decode cJ1_charAt_3b067 14 = .ok (.ireturn, 1) := by decide +kernel
theorem dJ1_canEncode_9a6ad_0 : decode cJ1_canEncode_9a6ad 0 = .ok (.iload_n 0, 1) := by decide +kernel
theorem dJ1_canEncode_9a6ad_1 : decode cJ1_canEncode_9a6ad 1 = .ok (.ifCond .lt 14, 3) := by decide +kernel
theorem dJ1_canEncode_9a6ad_4 : decode cJ1_canEncode_9a6ad 4 = .ok (.iload_n 0, 1) := by decide +kernel
theorem dJ1_canEncode_9a6ad_5 : decode cJ1_canEncode_9a6ad 5 = .ok (.sipush 255, 3) := by decide +kernel
theorem dJ1_canEncode_9a6ad_8 : decode cJ1_canEncode_9a6ad 8 = .ok (.if_icmp .gt 7, 3) := by decide +kernel
theorem dJ1_canEncode_9a6ad_11 : decode cJ1_canEncode_9a6ad 11 = .ok (.iconst 1, 1) := by decide +kernel
theorem dJ1_canEncode_9a6ad_12 : decode cJ1_canEncode_9a6ad 12 = .ok (.goto 4, 3) := by decide +kernel
theorem dJ1_canEncode_9a6ad_15 : decode cJ1_canEncode_9a6ad 15 = .ok (.iconst 0, 1) := by decide +kernel
theorem dJ1_canEncode_9a6ad_16 : decode cJ1_canEncode_9a6ad 16 = .ok (.ireturn, 1) := by decide +kernel
theorem dJ1_indexOf_4cfef_0 : decode cJ1_indexOf_4cfef 0 = .ok (.iload_n 1, 1) := by decide +kernel
theorem dJ1_indexOf_4cfef_1 : decode cJ1_indexOf_4cfef 1 = .ok (.invokestatic 88, 3) := by decide +kernel
theorem dJ1_indexOf_4cfef_4 : decode cJ1_indexOf_4cfef 4 = .ok (.ifCond .ne 5, 3) := by decide +kernel
theorem dJ1_indexOf_4cfef_7 : decode cJ1_indexOf_4cfef 7 = .ok (.iconst (-1), 1) := by decide +kernel
theorem dJ1_indexOf_4cfef_8 : decode cJ1_indexOf_4cfef 8 = .ok (.ireturn, 1) := by decide +kernel
theorem dJ1_indexOf_4cfef_9 : decode cJ1_indexOf_4cfef 9 = .ok (.iload_n 2, 1) := by decide +kernel
theorem dJ1_indexOf_4cfef_10 : decode cJ1_indexOf_4cfef 10 = .ok (.iconst 0, 1) := by decide +kernel
theorem dJ1_indexOf_4cfef_11 : decode cJ1_indexOf_4cfef 11 = .ok (.invokestatic 92, 3) := by decide +kernel
theorem dJ1_indexOf_4cfef_14 : decode cJ1_indexOf_4cfef 14 = .ok (.istore_n 2, 1) := by decide +kernel
theorem dJ1_indexOf_4cfef_15 : decode cJ1_indexOf_4cfef 15 = .ok (.iload_n 3, 1) := by decide +kernel
theorem dJ1_indexOf_4cfef_16 : decode cJ1_indexOf_4cfef 16 = .ok (.aload_n 0, 1) := by decide +kernel
theorem dJ1_indexOf_4cfef_17 : decode cJ1_indexOf_4cfef 17 = .ok (.arraylength, 1) := by decide +kernel
theorem dJ1_indexOf_4cfef_18 : decode cJ1_indexOf_4cfef 18 = .ok (.invokestatic 38, 3) := by decide +kernel
theorem dJ1_indexOf_4cfef_21 : decode cJ1_indexOf_4cfef 21 = .ok (.istore_n 3, 1) := by decide +kernel
theorem dJ1_indexOf_4cfef_22 : decode cJ1_indexOf_4cfef 22 = .ok (.iload_n 2, 1) := by decide +kernel
theorem dJ1_indexOf_4cfef_23 : decode cJ1_indexOf_4cfef 23 = .ok (.iload_n 3, 1) := by decide +kernel
theorem dJ1_indexOf_4cfef_24 : decode cJ1_indexOf_4cfef 24 = .ok (.if_icmp .lt 5, 3) := by decide +kernel
theorem dJ1_indexOf_4cfef_27 : decode cJ1_indexOf_4cfef 27 = .ok (.iconst (-1), 1) := by decide +kernel
theorem dJ1_indexOf_4cfef_28 : decode cJ1_indexOf_4cfef 28 = .ok (.ireturn, 1) := by decide +kernel
theorem dJ1_indexOf_4cfef_29 : decode cJ1_indexOf_4cfef 29 = .ok (.aload_n 0, 1) := by decide +kernel
theorem dJ1_indexOf_4cfef_30 : decode cJ1_indexOf_4cfef 30 = .ok (.iload_n 1, 1) := by decide +kernel
theorem dJ1_indexOf_4cfef_31 : decode cJ1_indexOf_4cfef 31 = .ok (.iload_n 2, 1) := by decide +kernel
theorem dJ1_indexOf_4cfef_32 : decode cJ1_indexOf_4cfef 32 = .ok (.iload_n 3, 1) := by decide +kernel
theorem dJ1_indexOf_4cfef_33 : decode cJ1_indexOf_4cfef 33 = .ok (.invokestatic 95, 3) := by decide +kernel
theorem dJ1_indexOf_4cfef_36 : decode cJ1_indexOf_4cfef 36 = .ok (.ireturn, 1) := by decide +kernel
theorem dJ1_indexOfChar_4cfef_0 : decode cJ1_indexOfChar_4cfef 0 = .ok (.iload_n 1, 1) := by decide +kernel
theorem dJ1_indexOfChar_4cfef_1 : decode cJ1_indexOfChar_4cfef 1 = .ok (.i2b, 1) := by decide +kernel
theorem dJ1_indexOfChar_4cfef_2 : decode cJ1_indexOfChar_4cfef 2 = .ok (.istore 4, 2) := by decide +kernel
theorem dJ1_indexOfChar_4cfef_4 : decode cJ1_indexOfChar_4cfef 4 = .ok (.iload_n 2, 1) := by decide +kernel
theorem dJ1_indexOfChar_4cfef_5 : decode cJ1_indexOfChar_4cfef 5 = .ok (.istore 5, 2) := by decide +kernel
theorem dJ1_indexOfChar_4cfef_7 : decode cJ1_indexOfChar_4cfef 7 = .ok (.iload 5, 2) := by decide +kernel
theorem dJ1_indexOfChar_4cfef_9 : decode cJ1_indexOfChar_4cfef 9 = .ok (.iload_n 3, 1) := by decide +kernel
theorem dJ1_indexOfChar_4cfef_10 : decode cJ1_indexOfChar_4cfef 10 = .ok (.if_icmp .ge 21, 3) := by decide +kernel
theorem dJ1_indexOfChar_4cfef_13 : decode cJ1_indexOfChar_4cfef 13 = .ok (.aload_n 0, 1) := by decide +kernel
theorem dJ1_indexOfChar_4cfef_14 : decode cJ1_indexOfChar_4cfef 14 = .ok (.iload 5, 2) := by decide +kernel
theorem dJ1_indexOfChar_4cfef_16 : decode cJ1_indexOfChar_4cfef 16 = .ok (.baload, 1) := by decide +kernel
theorem dJ1_indexOfChar_4cfef_17 : decode cJ1_indexOfChar_4cfef 17 = .ok (.iload 4, 2) := by decide +kernel
theorem dJ1_indexOfChar_4cfef_19 : decode cJ1_indexOfChar_4cfef 19 = .ok (.if_icmp .ne 6, 3) := by decide +kernel
theorem dJ1_indexOfChar_4cfef_22 : decode cJ1_indexOfChar_4cfef 22 = .ok (.iload 5, 2) := by decide +kernel
theorem dJ1_indexOfChar_4cfef_24 : decode cJ1_indexOfChar_4cfef 24 = .ok (.ireturn, 1) := by decide +kernel
theorem dJ1_indexOfChar_4cfef_25 : decode cJ1_indexOfChar_4cfef 25 = .ok (.iinc 5 1, 3) := by decide +kernel
theorem dJ1_indexOfChar_4cfef_28 : decode cJ1_indexOfChar_4cfef 28 = .ok (.goto (-21), 3) := by decide +kernel
theorem dJ1_indexOfChar_4cfef_31 : decode cJ1_indexOfChar_4cfef 31 = .ok (.iconst (-1), 1) := by decide +kernel
theorem dJ1_indexOfChar_4cfef_32 : decode cJ1_indexOfChar_4cfef 32 = .ok (.ireturn, 1) := by decide +kernel
theorem dJ2_getChar_3b067_0 : decode cJ2_getChar_3b067 0 = .ok (.getstatic 44, 3) := by decide +kernel
theorem dJ2_getChar_3b067_3 : decode cJ2_getChar_3b067 3 = .ok (.ifCond .ne 25, 3) := by decide +kernel
theorem dJ2_getChar_3b067_6 : decode cJ2_getChar_3b067 6 = .ok (.iload_n 1, 1) := by decide +kernel
theorem dJ2_getChar_3b067_7 : decode cJ2_getChar_3b067 7 = .ok (.ifCond .lt 11, 3) := by decide +kernel
theorem dJ2_getChar_3b067_10 : decode cJ2_getChar_3b067 10 = .ok (.iload_n 1, 1) := by decide +kernel
theorem dJ2_getChar_3b067_11 : decode cJ2_getChar_3b067 11 = .ok (.aload_n 0, 1) := by decide +kernel
theorem dJ2_getChar_3b067_12 : decode cJ2_getChar_3b067 12 = .ok (.invokestatic 48, 3) := by decide +kernel
theorem dJ2_getChar_3b067_15 : decode cJ2_getChar_3b067 15 = .ok (.if_icmp .lt 13, 3) := by decide +kernel
theorem dJ2_getChar_3b067_18 : decode cJ2_getChar_3b067 18 = .ok (.new 52, 3) := by decide +kernel
theorem dJ2_getChar_3b067_21 : decode cJ2_getChar_3b067 21 = .ok (.dup, 1) := by decide +kernel
theorem dJ2_getChar_3b067_22 : decode cJ2_getChar_3b067 22 = .ok (.ldc 54, 2) := by decide +kernel
theorem dJ2_getChar_3b067_24 : decode cJ2_getChar_3b067 24 = .ok (.invokespecial 56, 3) := by decide +kernel
theorem dJ2_getChar_3b067_27 : decode cJ2_getChar_3b067 27 = .ok (.athrow, 1) := by decide +kernel
theorem dJ2_getChar_3b067_28 : decode cJ2_getChar_3b067 28 = .ok (.iload_n 1, 1) := by decide +kernel
theorem dJ2_getChar_3b067_29 : decode cJ2_getChar_3b067 29 = .ok (.iconst 1, 1) := by decide +kernel
theorem dJ2_getChar_3b067_30 : decode cJ2_getChar_3b067 30 = .ok (.ishl, 1) := by decide +kernel
theorem dJ2_getChar_3b067_31 : decode cJ2_getChar_3b067 31 = .ok (.istore_n 1, 1) := by decide +kernel
theorem dJ2_getChar_3b067_32 : decode cJ2_getChar_3b067 32 = .ok (.aload_n 0, 1) := by decide +kernel
theorem dJ2_getChar_3b067_33 : decode cJ2_getChar_3b067 33 = .ok (.iload_n 1, 1) := by decide +kernel
theorem dJ2_getChar_3b067_34 : decode cJ2_getChar_3b067 34 = .ok (.iinc 1 1, 3) := by decide +kernel
theorem dJ2_getChar_3b067_37 : decode cJ2_getChar_3b067 37 = .ok (.baload, 1) := by decide +kernel
theorem dJ2_getChar_3b067_38 : decode cJ2_getChar_3b067 38 = .ok (.sipush 255, 3) := by decide +kernel
theorem dJ2_getChar_3b067_41 : decode cJ2_getChar_3b067 41 = .ok (.iand, 1) := by decide +kernel
theorem dJ2_getChar_3b067_42 : decode cJ2_getChar_3b067 42 = .ok (.getstatic 59, 3) := by decide +kernel
theorem dJ2_getChar_3b067_45 : decode cJ2_getChar_3b067 45 = .ok (.ishl, 1) := by decide +kernel
theorem dJ2_getChar_3b067_46 : decode cJ2_getChar_3b067 46 = .ok (.aload_n 0, 1) := by decide +kernel
theorem dJ2_getChar_3b067_47 : decode cJ2_getChar_3b067 47 = .ok (.iload_n 1, 1) := by decide +kernel
theorem dJ2_getChar_3b067_48 : decode cJ2_getChar_3b067 48 = .ok (.baload, 1) := by decide +kernel
theorem dJ2_getChar_3b067_49 : decode cJ2_getChar_3b067 49 = .ok (.sipush 255, 3) := by decide +kernel
theorem dJ2_getChar_3b067_52 : decode cJ2_getChar_3b067 52 = .ok (.iand, 1) := by decide +kernel
theorem dJ2_getChar_3b067_53 : decode cJ2_getChar_3b067 53 = .ok (.getstatic 63, 3) := by decide +kernel
theorem dJ2_getChar_3b067_56 : decode cJ2_getChar_3b067 56 = .ok (.ishl, 1) := by decide +kernel
theorem dJ2_getChar_3b067_57 : decode cJ2_getChar_3b067 57 = .ok (.ior, 1) := by decide +kernel
theorem dJ2_getChar_3b067_58 : decode cJ2_getChar_3b067 58 = .ok (.i2c, 1) := by decide +kernel
theorem dJ2_getChar_3b067_59 : decode cJ2_getChar_3b067 59 = .ok (.ireturn, 1) := by decide +kernel
theorem dJ2_length_9d52b_0 : decode cJ2_length_9d52b 0 = .ok (.aload_n 0, 1) := by decide +kernel
theorem dJ2_length_9d52b_1 : decode cJ2_length_9d52b 1 = .ok (.arraylength, 1) := by decide +kernel
theorem dJ2_length_9d52b_2 : decode cJ2_length_9d52b 2 = .ok (.iconst 1, 1) := by decide +kernel
theorem dJ2_length_9d52b_3 : decode cJ2_length_9d52b 3 = .ok (.ishr, 1) := by decide +kernel
theorem dJ2_length_9d52b_4 : decode cJ2_length_9d52b 4 = .ok (.ireturn, 1) := by decide +kernel
theorem dJ2_indexOf_4cfef_0 : decode cJ2_indexOf_4cfef 0 = .ok (.iload_n 2, 1) := by decide +kernel
theorem dJ2_indexOf_4cfef_1 : decode cJ2_indexOf_4cfef 1 = .ok (.iconst 0, 1) := by decide +kernel
theorem dJ2_indexOf_4cfef_2 : decode cJ2_indexOf_4cfef 2 = .ok (.invokestatic 224, 3) := by decide +kernel
theorem dJ2_indexOf_4cfef_5 : decode cJ2_indexOf_4cfef 5 = .ok (.istore_n 2, 1) := by decide +kernel
theorem dJ2_indexOf_4cfef_6 : decode cJ2_indexOf_4cfef 6 = .ok (.iload_n 3, 1) := by decide +kernel
theorem dJ2_indexOf_4cfef_7 : decode cJ2_indexOf_4cfef 7 = .ok (.aload_n 0, 1) := by decide +kernel
theorem dJ2_indexOf_4cfef_8 : decode cJ2_indexOf_4cfef 8 = .ok (.arraylength, 1) := by decide +kernel
theorem dJ2_indexOf_4cfef_9 : decode cJ2_indexOf_4cfef 9 = .ok (.iconst 1, 1) := by decide +kernel
theorem dJ2_indexOf_4cfef_10 : decode cJ2_indexOf_4cfef 10 = .ok (.ishr, 1) := by decide +kernel
theorem dJ2_indexOf_4cfef_11 : decode cJ2_indexOf_4cfef 11 = .ok (.invokestatic 183, 3) := by decide +kernel
theorem dJ2_indexOf_4cfef_14 : decode cJ2_indexOf_4cfef 14 = .ok (.istore_n 3, 1) := by decide +kernel
theorem dJ2_indexOf_4cfef_15 : decode cJ2_indexOf_4cfef 15 = .ok (.iload_n 2, 1) := by decide +kernel
theorem dJ2_indexOf_4cfef_16 : decode cJ2_indexOf_4cfef 16 = .ok (.iload_n 3, 1) := by decide +kernel
theorem dJ2_indexOf_4cfef_17 : decode cJ2_indexOf_4cfef 17 = .ok (.if_icmp .lt 5, 3) := by decide +kernel
theorem dJ2_indexOf_4cfef_20 : decode cJ2_indexOf_4cfef 20 = .ok (.iconst (-1), 1) := by decide +kernel
theorem dJ2_indexOf_4cfef_21 : decode cJ2_indexOf_4cfef 21 = .ok (.ireturn, 1) := by decide +kernel
theorem dJ2_indexOf_4cfef_22 : decode cJ2_indexOf_4cfef 22 = .ok (.iload_n 1, 1) := by decide +kernel
theorem dJ2_indexOf_4cfef_23 : decode cJ2_indexOf_4cfef 23 = .ok (.ldc 227, 2) := by decide +kernel
theorem dJ2_indexOf_4cfef_25 : decode cJ2_indexOf_4cfef 25 = .ok (.if_icmp .ge 11, 3) := by decide +kernel
theorem dJ2_indexOf_4cfef_28 : decode cJ2_indexOf_4cfef 28 = .ok (.aload_n 0, 1) := by decide +kernel
theorem dJ2_indexOf_4cfef_29 : decode cJ2_indexOf_4cfef 29 = .ok (.iload_n 1, 1) := by decide +kernel
theorem dJ2_indexOf_4cfef_30 : decode cJ2_indexOf_4cfef 30 = .ok (.iload_n 2, 1) := by decide +kernel
theorem dJ2_indexOf_4cfef_31 : decode cJ2_indexOf_4cfef 31 = .ok (.iload_n 3, 1) := by decide +kernel
theorem dJ2_indexOf_4cfef_32 : decode cJ2_indexOf_4cfef 32 = .ok (.invokestatic 228, 3) := by decide +kernel
theorem dJ2_indexOf_4cfef_35 : decode cJ2_indexOf_4cfef 35 = .ok (.ireturn, 1) := by decide +kernel
theorem dJ2_indexOf_4cfef_36 : decode cJ2_indexOf_4cfef 36 = .ok (.aload_n 0, 1) := by decide +kernel
theorem dJ2_indexOf_4cfef_37 : decode cJ2_indexOf_4cfef 37 = .ok (.iload_n 1, 1) := by decide +kernel
theorem dJ2_indexOf_4cfef_38 : decode cJ2_indexOf_4cfef 38 = .ok (.iload_n 2, 1) := by decide +kernel
theorem dJ2_indexOf_4cfef_39 : decode cJ2_indexOf_4cfef 39 = .ok (.iload_n 3, 1) := by decide +kernel
theorem dJ2_indexOf_4cfef_40 : decode cJ2_indexOf_4cfef 40 = .ok (.invokestatic 232, 3) := by decide +kernel
theorem dJ2_indexOf_4cfef_43 : decode cJ2_indexOf_4cfef 43 = .ok (.ireturn, 1) := by decide +kernel
theorem dJ2_indexOfChar_4cfef_0 : decode cJ2_indexOfChar_4cfef 0 = .ok (.iload_n 2, 1) := by decide +kernel
theorem dJ2_indexOfChar_4cfef_1 : decode cJ2_indexOfChar_4cfef 1 = .ok (.iload_n 3, 1) := by decide +kernel
theorem dJ2_indexOfChar_4cfef_2 : decode cJ2_indexOfChar_4cfef 2 = .ok (.aload_n 0, 1) := by decide +kernel
theorem dJ2_indexOfChar_4cfef_3 : decode cJ2_indexOfChar_4cfef 3 = .ok (.invokestatic 96, 3) := by decide +kernel
theorem dJ2_indexOfChar_4cfef_6 : decode cJ2_indexOfChar_4cfef 6 = .ok (.aload_n 0, 1) := by decide +kernel
theorem dJ2_indexOfChar_4cfef_7 : decode cJ2_indexOfChar_4cfef 7 = .ok (.iload_n 1, 1) := by decide +kernel
theorem dJ2_indexOfChar_4cfef_8 : decode cJ2_indexOfChar_4cfef 8 = .ok (.iload_n 2, 1) := by decide +kernel
theorem dJ2_indexOfChar_4cfef_9 : decode cJ2_indexOfChar_4cfef 9 = .ok (.iload_n 3, 1) := by decide +kernel
theorem dJ2_indexOfChar_4cfef_10 : decode cJ2_indexOfChar_4cfef 10 = .ok (.invokestatic 244, 3) := by decide +kernel
theorem dJ2_indexOfChar_4cfef_13 : decode cJ2_indexOfChar_4cfef 13 = .ok (.ireturn, 1) := by decide +kernel
theorem dJ2_indexOfCharUnsafe_4cfef_0 : decode cJ2_indexOfCharUnsafe_4cfef 0 = .ok (.iload_n 2, 1) := by decide +kernel
theorem dJ2_indexOfCharUnsafe_4cfef_1 : decode cJ2_indexOfCharUnsafe_4cfef 1 = .ok (.istore 4, 2) := by decide +kernel
theorem dJ2_indexOfCharUnsafe_4cfef_3 : decode cJ2_indexOfCharUnsafe_4cfef 3 = .ok (.iload 4, 2) := by decide +kernel
theorem dJ2_indexOfCharUnsafe_4cfef_5 : decode cJ2_indexOfCharUnsafe_4cfef 5 = .ok (.iload_n 3, 1) := by decide +kernel
theorem dJ2_indexOfCharUnsafe_4cfef_6 : decode cJ2_indexOfCharUnsafe_4cfef 6 = .ok (.if_icmp .ge 22, 3) := by decide +kernel
theorem dJ2_indexOfCharUnsafe_4cfef_9 : decode cJ2_indexOfCharUnsafe_4cfef 9 = .ok (.aload_n 0, 1) := by decide +kernel
theorem dJ2_indexOfCharUnsafe_4cfef_10 : decode cJ2_indexOfCharUnsafe_4cfef 10 = .ok (.iload 4, 2) := by decide +kernel
theorem dJ2_indexOfCharUnsafe_4cfef_12 : decode cJ2_indexOfCharUnsafe_4cfef 12 = .ok (.invokestatic 71, 3) := by decide +kernel
theorem dJ2_indexOfCharUnsafe_4cfef_15 : decode cJ2_indexOfCharUnsafe_4cfef 15 = .ok (.iload_n 1, 1) := by decide +kernel
theorem dJ2_indexOfCharUnsafe_4cfef_16 : decode cJ2_indexOfCharUnsafe_4cfef 16 = .ok (.if_icmp .ne 6, 3) := by decide +kernel
theorem dJ2_indexOfCharUnsafe_4cfef_19 : decode cJ2_indexOfCharUnsafe_4cfef 19 = .ok (.iload 4, 2) := by decide +kernel
theorem dJ2_indexOfCharUnsafe_4cfef_21 : decode cJ2_indexOfCharUnsafe_4cfef 21 = .ok (.ireturn, 1) := by decide +kernel
theorem dJ2_indexOfCharUnsafe_4cfef_22 : decode cJ2_indexOfCharUnsafe_4cfef 22 = .ok (.iinc 4 1, 3) := by decide +kernel
theorem dJ2_indexOfCharUnsafe_4cfef_25 : decode cJ2_indexOfCharUnsafe_4cfef 25 = .ok (.goto (-22), 3) := by decide +kernel
theorem dJ2_indexOfCharUnsafe_4cfef_28 : decode cJ2_indexOfCharUnsafe_4cfef 28 = .ok (.iconst (-1), 1) := by decide +kernel
theorem dJ2_indexOfCharUnsafe_4cfef_29 : decode cJ2_indexOfCharUnsafe_4cfef 29 = .ok (.ireturn, 1) := by decide +kernel
theorem dJ2_indexOfSupplementary_4cfef_0 : decode cJ2_indexOfSupplementary_4cfef 0 = .ok (.iload_n 1, 1) := by decide +kernel
theorem dJ2_indexOfSupplementary_4cfef_1 : decode cJ2_indexOfSupplementary_4cfef 1 = .ok (.invokestatic 164, 3) := by decide +kernel
theorem dJ2_indexOfSupplementary_4cfef_4 : decode cJ2_indexOfSupplementary_4cfef 4 = .ok (.ifCond .eq 65, 3) := by decide +kernel
theorem dJ2_indexOfSupplementary_4cfef_7 : decode cJ2_indexOfSupplementary_4cfef 7 = .ok (.iload_n 1, 1) := by decide +kernel
theorem dJ2_indexOfSupplementary_4cfef_8 : decode cJ2_indexOfSupplementary_4cfef 8 = .ok (.invokestatic 157, 3) := by decide +kernel
theorem dJ2_indexOfSupplementary_4cfef_11 : decode cJ2_indexOfSupplementary_4cfef 11 = .ok (.istore 4, 2) := by decide +kernel
theorem dJ2_indexOfSupplementary_4cfef_13 : decode cJ2_indexOfSupplementary_4cfef 13 = .ok (.iload_n 1, 1) := by decide +kernel
theorem dJ2_indexOfSupplementary_4cfef_14 : decode cJ2_indexOfSupplementary_4cfef 14 = .ok (.invokestatic 161, 3) := by decide +kernel
theorem dJ2_indexOfSupplementary_4cfef_17 : decode cJ2_indexOfSupplementary_4cfef 17 = .ok (.istore 5, 2) := by decide +kernel
theorem dJ2_indexOfSupplementary_4cfef_19 : decode cJ2_indexOfSupplementary_4cfef 19 = .ok (.iload_n 2, 1) := by decide +kernel
theorem dJ2_indexOfSupplementary_4cfef_20 : decode cJ2_indexOfSupplementary_4cfef 20 = .ok (.iload_n 3, 1) := by decide +kernel
theorem dJ2_indexOfSupplementary_4cfef_21 : decode cJ2_indexOfSupplementary_4cfef 21 = .ok (.aload_n 0, 1) := by decide +kernel
theorem dJ2_indexOfSupplementary_4cfef_22 : decode cJ2_indexOfSupplementary_4cfef 22 = .ok (.invokestatic 96, 3) := by decide +kernel
theorem dJ2_indexOfSupplementary_4cfef_25 : decode cJ2_indexOfSupplementary_4cfef 25 = .ok (.iload_n 2, 1) := by decide +kernel
theorem dJ2_indexOfSupplementary_4cfef_26 : decode cJ2_indexOfSupplementary_4cfef 26 = .ok (.istore 6, 2) := by decide +kernel
theorem dJ2_indexOfSupplementary_4cfef_28 : decode cJ2_indexOfSupplementary_4cfef 28 = .ok (.iload 6, 2) := by decide +kernel
theorem dJ2_indexOfSupplementary_4cfef_30 : decode cJ2_indexOfSupplementary_4cfef 30 = .ok (.iload_n 3, 1) := by decide +kernel
theorem dJ2_indexOfSupplementary_4cfef_31 : decode cJ2_indexOfSupplementary_4cfef 31 = .ok (.iconst 1, 1) := by decide +kernel
theorem dJ2_indexOfSupplementary_4cfef_32 : decode cJ2_indexOfSupplementary_4cfef 32 = .ok (.isub, 1) := by decide +kernel
theorem dJ2_indexOfSupplementary_4cfef_33 : decode cJ2_indexOfSupplementary_4cfef 33 = .ok (.if_icmp .ge 36, 3) := by decide +kernel
theorem dJ2_indexOfSupplementary_4cfef_36 : decode cJ2_indexOfSupplementary_4cfef 36 = .ok (.aload_n 0, 1) := by decide +kernel
theorem dJ2_indexOfSupplementary_4cfef_37 : decode cJ2_indexOfSupplementary_4cfef 37 = .ok (.iload 6, 2) := by decide +kernel
theorem dJ2_indexOfSupplementary_4cfef_39 : decode cJ2_indexOfSupplementary_4cfef 39 = .ok (.invokestatic 71, 3) := by decide +kernel
theorem dJ2_indexOfSupplementary_4cfef_42 : decode cJ2_indexOfSupplementary_4cfef 42 = .ok (.iload 4, 2) := by decide +kernel
theorem dJ2_indexOfSupplementary_4cfef_44 : decode cJ2_indexOfSupplementary_4cfef 44 = .ok (.if_icmp .ne 19, 3) := by decide +kernel
theorem dJ2_indexOfSupplementary_4cfef_47 : decode cJ2_indexOfSupplementary_4cfef 47 = .ok (.aload_n 0, 1) := by decide +kernel
theorem dJ2_indexOfSupplementary_4cfef_48 : decode cJ2_indexOfSupplementary_4cfef 48 = .ok (.iload 6, 2) := by decide +kernel
theorem dJ2_indexOfSupplementary_4cfef_50 : decode cJ2_indexOfSupplementary_4cfef 50 = .ok (.iconst 1, 1) := by decide +kernel
theorem dJ2_indexOfSupplementary_4cfef_51 : decode cJ2_indexOfSupplementary_4cfef 51 = .ok (.iadd, 1) := by decide +kernel
theorem dJ2_indexOfSupplementary_4cfef_52 : decode cJ2_indexOfSupplementary_4cfef 52 = .ok (.invokestatic 71, 3) := by decide +kernel
theorem dJ2_indexOfSupplementary_4cfef_55 : decode cJ2_indexOfSupplementary_4cfef 55 = .ok (.iload 5, 2) := by decide +kernel
theorem dJ2_indexOfSupplementary_4cfef_57 : decode cJ2_indexOfSupplementary_4cfef 57 = .ok (.if_icmp .ne 6, 3) := by decide +kernel
theorem dJ2_indexOfSupplementary_4cfef_60 : decode cJ2_indexOfSupplementary_4cfef 60 = .ok (.iload 6, 2) := by decide +kernel
theorem dJ2_indexOfSupplementary_4cfef_62 : decode cJ2_indexOfSupplementary_4cfef 62 = .ok (.ireturn, 1) := by decide +kernel
theorem dJ2_indexOfSupplementary_4cfef_63 : decode cJ2_indexOfSupplementary_4cfef 63 = .ok (.iinc 6 1, 3) := by decide +kernel
theorem dJ2_indexOfSupplementary_4cfef_66 : decode cJ2_indexOfSupplementary_4cfef 66 = .ok (.goto (-38), 3) := by decide +kernel
theorem dJ2_indexOfSupplementary_4cfef_69 : decode cJ2_indexOfSupplementary_4cfef 69 = .ok (.iconst (-1), 1) := by decide +kernel
theorem dJ2_indexOfSupplementary_4cfef_70 : decode cJ2_indexOfSupplementary_4cfef 70 = .ok (.ireturn, 1) := by decide +kernel
theorem dJ2_charAt_3b067_0 : decode cJ2_charAt_3b067 0 = .ok (.iload_n 1, 1) := by decide +kernel
theorem dJ2_charAt_3b067_1 : decode cJ2_charAt_3b067 1 = .ok (.aload_n 0, 1) := by decide +kernel
theorem dJ2_charAt_3b067_2 : decode cJ2_charAt_3b067 2 = .ok (.invokestatic 67, 3) := by decide +kernel
theorem dJ2_charAt_3b067_5 : decode cJ2_charAt_3b067 5 = .ok (.aload_n 0, 1) := by decide +kernel
theorem dJ2_charAt_3b067_6 : decode cJ2_charAt_3b067 6 = .ok (.iload_n 1, 1) := by decide +kernel
theorem dJ2_charAt_3b067_7 : decode cJ2_charAt_3b067 7 = .ok (.invokestatic 71, 3) := by decide +kernel
theorem dJ2_charAt_3b067_10 : decode cJ2_charAt_3b067 10 = .ok (.ireturn, 1) := by decide +kernel
theorem dJ2_checkIndex_2214a_0 : decode cJ2_checkIndex_2214a 0 = .ok (.iload_n 0, 1) := by decide +kernel
theorem dJ2_checkIndex_2214a_1 : decode cJ2_checkIndex_2214a 1 = .ok (.aload_n 1, 1) := by decide +kernel
theorem dJ2_checkIndex_2214a_2 : decode cJ2_checkIndex_2214a 2 = .ok (.invokestatic 48, 3) := by decide +kernel
theorem dJ2_checkIndex_2214a_5 : decode cJ2_checkIndex_2214a 5 = .ok (.invokestatic 414, 3) := by decide +kernel
theorem dJ2_checkIndex_2214a_8 : decode cJ2_checkIndex_2214a 8 = .ok (.return_, 1) := by decide +kernel
theorem dJ2_checkBoundsBeginEnd_d044e_0 : decode cJ2_checkBoundsBeginEnd_d044e 0 = .ok (.iload_n 0, 1) := by decide +kernel
theorem dJ2_checkBoundsBeginEnd_d044e_1 : decode cJ2_checkBoundsBeginEnd_d044e 1 = .ok (.iload_n 1, 1) := by decide +kernel
theorem dJ2_checkBoundsBeginEnd_d044e_2 : decode cJ2_checkBoundsBeginEnd_d044e 2 = .ok (.aload_n 2, 1) := by decide +kernel
theorem dJ2_checkBoundsBeginEnd_d044e_3 : decode cJ2_checkBoundsBeginEnd_d044e 3 = .ok (.invokestatic 48, 3) := by decide +kernel
theorem dJ2_checkBoundsBeginEnd_d044e_6 : decode cJ2_checkBoundsBeginEnd_d044e 6 = .ok (.invokestatic 241, 3) := by decide +kernel
theorem dJ2_checkBoundsBeginEnd_d044e_9 : decode cJ2_checkBoundsBeginEnd_d044e 9 = .ok (.return_, 1) := by decide +kernel
theorem dJ7_fill_d0a16_0 : decode cJ7_fill_d0a16 0 = .ok (.iconst 0, 1) := by decide +kernel
theorem dJ7_fill_d0a16_1 : decode cJ7_fill_d0a16 1 = .ok (.istore_n 3, 1) := by decide +kernel
theorem dJ7_fill_d0a16_2 : decode cJ7_fill_d0a16 2 = .ok (.aload_n 0, 1) := by decide +kernel
theorem dJ7_fill_d0a16_3 : decode cJ7_fill_d0a16 3 = .ok (.arraylength, 1) := by decide +kernel
theorem dJ7_fill_d0a16_4 : decode cJ7_fill_d0a16 4 = .ok (.istore 4, 2) := by decide +kernel
theorem dJ7_fill_d0a16_6 : decode cJ7_fill_d0a16 6 = .ok (.iload_n 3, 1) := by decide +kernel
theorem dJ7_fill_d0a16_7 : decode cJ7_fill_d0a16 7 = .ok (.iload 4, 2) := by decide +kernel
theorem dJ7_fill_d0a16_9 : decode cJ7_fill_d0a16 9 = .ok (.if_icmp .ge 13, 3) := by decide +kernel
theorem dJ7_fill_d0a16_12 : decode cJ7_fill_d0a16 12 = .ok (.aload_n 0, 1) := by decide +kernel
theorem dJ7_fill_d0a16_13 : decode cJ7_fill_d0a16 13 = .ok (.iload_n 3, 1) := by decide +kernel
theorem dJ7_fill_d0a16_14 : decode cJ7_fill_d0a16 14 = .ok (.lload_n 1, 1) := by decide +kernel
theorem dJ7_fill_d0a16_15 : decode cJ7_fill_d0a16 15 = .ok (.lastore, 1) := by decide +kernel
theorem dJ7_fill_d0a16_16 : decode cJ7_fill_d0a16 16 = .ok (.iinc 3 1, 3) := by decide +kernel
theorem dJ7_fill_d0a16_19 : decode cJ7_fill_d0a16 19 = .ok (.goto (-13), 3) := by decide +kernel
theorem dJ7_fill_d0a16_22 : decode cJ7_fill_d0a16 22 = .ok (.return_, 1) := by decide +kernel
theorem dJ7_fill_53178_0 : decode cJ7_fill_53178 0 = .ok (.iconst 0, 1) := by decide +kernel
theorem dJ7_fill_53178_1 : decode cJ7_fill_53178 1 = .ok (.istore_n 2, 1) := by decide +kernel
theorem dJ7_fill_53178_2 : decode cJ7_fill_53178 2 = .ok (.aload_n 0, 1) := by decide +kernel
theorem dJ7_fill_53178_3 : decode cJ7_fill_53178 3 = .ok (.arraylength, 1) := by decide +kernel
theorem dJ7_fill_53178_4 : decode cJ7_fill_53178 4 = .ok (.istore_n 3, 1) := by decide +kernel
theorem dJ7_fill_53178_5 : decode cJ7_fill_53178 5 = .ok (.iload_n 2, 1) := by decide +kernel
theorem dJ7_fill_53178_6 : decode cJ7_fill_53178 6 = .ok (.iload_n 3, 1) := by decide +kernel
theorem dJ7_fill_53178_7 : decode cJ7_fill_53178 7 = .ok (.if_icmp .ge 13, 3) := by decide +kernel
theorem dJ7_fill_53178_10 : decode cJ7_fill_53178 10 = .ok (.aload_n 0, 1) := by decide +kernel
theorem dJ7_fill_53178_11 : decode cJ7_fill_53178 11 = .ok (.iload_n 2, 1) := by decide +kernel
theorem dJ7_fill_53178_12 : decode cJ7_fill_53178 12 = .ok (.iload_n 1, 1) := by decide +kernel
theorem dJ7_fill_53178_13 : decode cJ7_fill_53178 13 = .ok (.iastore, 1) := by decide +kernel
theorem dJ7_fill_53178_14 : decode cJ7_fill_53178 14 = .ok (.iinc 2 1, 3) := by decide +kernel
theorem dJ7_fill_53178_17 : decode cJ7_fill_53178 17 = .ok (.goto (-12), 3) := by decide +kernel
theorem dJ7_fill_53178_20 : decode cJ7_fill_53178 20 = .ok (.return_, 1) := by decide +kernel
theorem dJ3_checkIndex_8e157_0 : decode cJ3_checkIndex_8e157 0 = .ok (.iload_n 0, 1) := by decide +kernel
theorem dJ3_checkIndex_8e157_1 : decode cJ3_checkIndex_8e157 1 = .ok (.ifCond .lt 8, 3) := by decide +kernel
theorem dJ3_checkIndex_8e157_4 : decode cJ3_checkIndex_8e157 4 = .ok (.iload_n 0, 1) := by decide +kernel
theorem dJ3_checkIndex_8e157_5 : decode cJ3_checkIndex_8e157 5 = .ok (.iload_n 1, 1) := by decide +kernel
theorem dJ3_checkIndex_8e157_6 : decode cJ3_checkIndex_8e157 6 = .ok (.if_icmp .lt 10, 3) := by decide +kernel
theorem dJ3_checkIndex_8e157_9 : decode cJ3_checkIndex_8e157 9 = .ok (.aload_n 2, 1) := by decide +kernel
theorem dJ3_checkIndex_8e157_10 : decode cJ3_checkIndex_8e157 10 = .ok (.iload_n 0, 1) := by decide +kernel
theorem dJ3_checkIndex_8e157_11 : decode cJ3_checkIndex_8e157 11 = .ok (.iload_n 1, 1) := by decide +kernel
theorem dJ3_checkIndex_8e157_12 : decode cJ3_checkIndex_8e157 12 = .ok (.invokestatic 95, 3) := by decide +kernel
theorem dJ3_checkIndex_8e157_15 : decode cJ3_checkIndex_8e157 15 = .ok (.athrow, 1) := by decide +kernel
theorem dJ3_checkIndex_8e157_16 : decode cJ3_checkIndex_8e157 16 = .ok (.iload_n 0, 1) := by decide +kernel
theorem dJ3_checkIndex_8e157_17 : decode cJ3_checkIndex_8e157 17 = .ok (.ireturn, 1) := by decide +kernel
theorem dJ3_checkFromToIndex_8c36e_0 : decode cJ3_checkFromToIndex_8c36e 0 = .ok (.iload_n 0, 1) := by decide +kernel
theorem dJ3_checkFromToIndex_8c36e_1 : decode cJ3_checkFromToIndex_8c36e 1 = .ok (.ifCond .lt 13, 3) := by decide +kernel
theorem dJ3_checkFromToIndex_8c36e_4 : decode cJ3_checkFromToIndex_8c36e 4 = .ok (.iload_n 0, 1) := by decide +kernel
theorem dJ3_checkFromToIndex_8c36e_5 : decode cJ3_checkFromToIndex_8c36e 5 = .ok (.iload_n 1, 1) := by decide +kernel
theorem dJ3_checkFromToIndex_8c36e_6 : decode cJ3_checkFromToIndex_8c36e 6 = .ok (.if_icmp .gt 8, 3) := by decide +kernel
theorem dJ3_checkFromToIndex_8c36e_9 : decode cJ3_checkFromToIndex_8c36e 9 = .ok (.iload_n 1, 1) := by decide +kernel
theorem dJ3_checkFromToIndex_8c36e_10 : decode cJ3_checkFromToIndex_8c36e 10 = .ok (.iload_n 2, 1) := by decide +kernel
theorem dJ3_checkFromToIndex_8c36e_11 : decode cJ3_checkFromToIndex_8c36e 11 = .ok (.if_icmp .le 11, 3) := by decide +kernel
theorem dJ3_checkFromToIndex_8c36e_14 : decode cJ3_checkFromToIndex_8c36e 14 = .ok (.aload_n 3, 1) := by decide +kernel
theorem dJ3_checkFromToIndex_8c36e_15 : decode cJ3_checkFromToIndex_8c36e 15 = .ok (.iload_n 0, 1) := by decide +kernel
theorem dJ3_checkFromToIndex_8c36e_16 : decode cJ3_checkFromToIndex_8c36e 16 = .ok (.iload_n 1, 1) := by decide +kernel
theorem dJ3_checkFromToIndex_8c36e_17 : decode cJ3_checkFromToIndex_8c36e 17 = .ok (.iload_n 2, 1) := by decide +kernel
theorem dJ3_checkFromToIndex_8c36e_18 : decode cJ3_checkFromToIndex_8c36e 18 = .ok (.invokestatic 99, 3) := by decide +kernel
theorem dJ3_checkFromToIndex_8c36e_21 : decode cJ3_checkFromToIndex_8c36e 21 = .ok (.athrow, 1) := by decide +kernel
theorem dJ3_checkFromToIndex_8c36e_22 : decode cJ3_checkFromToIndex_8c36e 22 = .ok (.iload_n 0, 1) := by decide +kernel
theorem dJ3_checkFromToIndex_8c36e_23 : decode cJ3_checkFromToIndex_8c36e 23 = .ok (.ireturn, 1) := by decide +kernel
