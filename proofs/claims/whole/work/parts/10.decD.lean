theorem dX12_give_26 : decode cX12_give 26 = .ok (.aload_n 0, 1) := by decide +kernel
theorem dX12_give_27 : decode cX12_give 27 = .ok (.invokevirtual 267, 3) := by decide +kernel
theorem dX12_give_30 : decode cX12_give 30 = .ok (.aload_n 0, 1) := by decide +kernel
theorem dX12_give_31 : decode cX12_give 31 = .ok (.getfield 13, 3) := by decide +kernel
theorem dX12_give_34 : decode cX12_give 34 = .ok (.bipush 68, 2) := by decide +kernel
theorem dX12_give_36 : decode cX12_give 36 = .ok (.iload_n 1, 1) := by decide +kernel
theorem dX12_give_37 : decode cX12_give 37 = .ok (.iadd, 1) := by decide +kernel
theorem dX12_give_38 : decode cX12_give 38 = .ok (.iload_n 2, 1) := by decide +kernel
theorem dX12_give_39 : decode cX12_give 39 = .ok (.iastore, 1) := by decide +kernel
theorem dX12_give_40 : decode cX12_give 40 = .ok (.aload_n 0, 1) := by decide +kernel
theorem dX12_give_41 : decode cX12_give 41 = .ok (.invokevirtual 270, 3) := by decide +kernel
theorem dX12_give_44 : decode cX12_give 44 = .ok (.aload_n 0, 1) := by decide +kernel
theorem dX12_give_45 : decode cX12_give 45 = .ok (.getfield 36, 3) := by decide +kernel
theorem dX12_give_48 : decode cX12_give 48 = .ok (.iconst 4, 1) := by decide +kernel
theorem dX12_give_49 : decode cX12_give 49 = .ok (.iload_n 1, 1) := by decide +kernel
theorem dX12_give_50 : decode cX12_give 50 = .ok (.iadd, 1) := by decide +kernel
theorem dX12_give_51 : decode cX12_give 51 = .ok (.iaload, 1) := by decide +kernel
theorem dX12_give_52 : decode cX12_give 52 = .ok (.ireturn, 1) := by decide +kernel
theorem dX12_lay_0 : decode cX12_lay 0 = .ok (.aload_n 0, 1) := by decide +kernel
theorem dX12_lay_1 : decode cX12_lay 1 = .ok (.iconst 0, 1) := by decide +kernel
theorem dX12_lay_2 : decode cX12_lay 2 = .ok (.putfield 1, 3) := by decide +kernel
theorem dX12_lay_5 : decode cX12_lay 5 = .ok (.aload_n 0, 1) := by decide +kernel
theorem dX12_lay_6 : decode cX12_lay 6 = .ok (.iload_n 1, 1) := by decide +kernel
theorem dX12_lay_7 : decode cX12_lay 7 = .ok (.i2l, 1) := by decide +kernel
theorem dX12_lay_8 : decode cX12_lay 8 = .ok (.invokevirtual 280, 3) := by decide +kernel
theorem dX12_lay_11 : decode cX12_lay 11 = .ok (.istore_n 2, 1) := by decide +kernel
theorem dX12_lay_12 : decode cX12_lay 12 = .ok (.iload_n 2, 1) := by decide +kernel
theorem dX12_lay_13 : decode cX12_lay 13 = .ok (.ifCond .eq 8, 3) := by decide +kernel
theorem dX12_lay_16 : decode cX12_lay 16 = .ok (.bipush (-10), 2) := by decide +kernel
theorem dX12_lay_18 : decode cX12_lay 18 = .ok (.iload_n 2, 1) := by decide +kernel
theorem dX12_lay_19 : decode cX12_lay 19 = .ok (.isub, 1) := by decide +kernel
theorem dX12_lay_20 : decode cX12_lay 20 = .ok (.ireturn, 1) := by decide +kernel
theorem dX12_lay_21 : decode cX12_lay 21 = .ok (.aload_n 0, 1) := by decide +kernel
theorem dX12_lay_22 : decode cX12_lay 22 = .ok (.invokevirtual 267, 3) := by decide +kernel
theorem dX12_lay_25 : decode cX12_lay 25 = .ok (.aload_n 0, 1) := by decide +kernel
theorem dX12_lay_26 : decode cX12_lay 26 = .ok (.getfield 13, 3) := by decide +kernel
theorem dX12_lay_29 : decode cX12_lay 29 = .ok (.bipush 68, 2) := by decide +kernel
theorem dX12_lay_31 : decode cX12_lay 31 = .ok (.iload_n 1, 1) := by decide +kernel
theorem dX12_lay_32 : decode cX12_lay 32 = .ok (.iadd, 1) := by decide +kernel
theorem dX12_lay_33 : decode cX12_lay 33 = .ok (.iconst (-1), 1) := by decide +kernel
theorem dX12_lay_34 : decode cX12_lay 34 = .ok (.iastore, 1) := by decide +kernel
theorem dX12_lay_35 : decode cX12_lay 35 = .ok (.aload_n 0, 1) := by decide +kernel
theorem dX12_lay_36 : decode cX12_lay 36 = .ok (.invokevirtual 270, 3) := by decide +kernel
theorem dX12_lay_39 : decode cX12_lay 39 = .ok (.aload_n 0, 1) := by decide +kernel
theorem dX12_lay_40 : decode cX12_lay 40 = .ok (.getfield 36, 3) := by decide +kernel
theorem dX12_lay_43 : decode cX12_lay 43 = .ok (.iconst 4, 1) := by decide +kernel
theorem dX12_lay_44 : decode cX12_lay 44 = .ok (.iload_n 1, 1) := by decide +kernel
theorem dX12_lay_45 : decode cX12_lay 45 = .ok (.iadd, 1) := by decide +kernel
theorem dX12_lay_46 : decode cX12_lay 46 = .ok (.iaload, 1) := by decide +kernel
theorem dX12_lay_47 : decode cX12_lay 47 = .ok (.ireturn, 1) := by decide +kernel
theorem dX12_gale_0 : decode cX12_gale 0 = .ok (.aload_n 0, 1) := by decide +kernel
theorem dX12_gale_1 : decode cX12_gale 1 = .ok (.iconst 0, 1) := by decide +kernel
theorem dX12_gale_2 : decode cX12_gale 2 = .ok (.putfield 1, 3) := by decide +kernel
theorem dX12_gale_5 : decode cX12_gale 5 = .ok (.iload_n 1, 1) := by decide +kernel
theorem dX12_gale_6 : decode cX12_gale 6 = .ok (.i2l, 1) := by decide +kernel
theorem dX12_gale_7 : decode cX12_gale 7 = .ok (.lconst 0, 1) := by decide +kernel
theorem dX12_gale_8 : decode cX12_gale 8 = .ok (.ldc2_w 283, 3) := by decide +kernel
theorem dX12_gale_11 : decode cX12_gale 11 = .ok (.invokestatic 130, 3) := by decide +kernel
theorem dX12_gale_14 : decode cX12_gale 14 = .ok (.ifCond .ne 6, 3) := by decide +kernel
theorem dX12_gale_17 : decode cX12_gale 17 = .ok (.bipush (-3), 2) := by decide +kernel
theorem dX12_gale_19 : decode cX12_gale 19 = .ok (.ireturn, 1) := by decide +kernel
theorem dX12_gale_20 : decode cX12_gale 20 = .ok (.aload_n 0, 1) := by decide +kernel
theorem dX12_gale_21 : decode cX12_gale 21 = .ok (.invokevirtual 267, 3) := by decide +kernel
theorem dX12_gale_24 : decode cX12_gale 24 = .ok (.aload_n 0, 1) := by decide +kernel
theorem dX12_gale_25 : decode cX12_gale 25 = .ok (.getfield 13, 3) := by decide +kernel
theorem dX12_gale_28 : decode cX12_gale 28 = .ok (.bipush 65, 2) := by decide +kernel
theorem dX12_gale_30 : decode cX12_gale 30 = .ok (.iload_n 1, 1) := by decide +kernel
theorem dX12_gale_31 : decode cX12_gale 31 = .ok (.iastore, 1) := by decide +kernel
theorem dX12_gale_32 : decode cX12_gale 32 = .ok (.aload_n 0, 1) := by decide +kernel
theorem dX12_gale_33 : decode cX12_gale 33 = .ok (.invokevirtual 270, 3) := by decide +kernel
theorem dX12_gale_36 : decode cX12_gale 36 = .ok (.aload_n 0, 1) := by decide +kernel
theorem dX12_gale_37 : decode cX12_gale 37 = .ok (.getfield 36, 3) := by decide +kernel
theorem dX12_gale_40 : decode cX12_gale 40 = .ok (.iconst 1, 1) := by decide +kernel
theorem dX12_gale_41 : decode cX12_gale 41 = .ok (.iaload, 1) := by decide +kernel
theorem dX12_gale_42 : decode cX12_gale 42 = .ok (.ireturn, 1) := by decide +kernel
theorem dX12_hours_0 : decode cX12_hours 0 = .ok (.aload_n 0, 1) := by decide +kernel
theorem dX12_hours_1 : decode cX12_hours 1 = .ok (.iconst 0, 1) := by decide +kernel
theorem dX12_hours_2 : decode cX12_hours 2 = .ok (.putfield 1, 3) := by decide +kernel
theorem dX12_hours_5 : decode cX12_hours 5 = .ok (.iload_n 1, 1) := by decide +kernel
theorem dX12_hours_6 : decode cX12_hours 6 = .ok (.i2l, 1) := by decide +kernel
theorem dX12_hours_7 : decode cX12_hours 7 = .ok (.lconst 1, 1) := by decide +kernel
theorem dX12_hours_8 : decode cX12_hours 8 = .ok (.ldc2_w 285, 3) := by decide +kernel
theorem dX12_hours_11 : decode cX12_hours 11 = .ok (.invokestatic 130, 3) := by decide +kernel
theorem dX12_hours_14 : decode cX12_hours 14 = .ok (.ifCond .ne 6, 3) := by decide +kernel
theorem dX12_hours_17 : decode cX12_hours 17 = .ok (.bipush (-3), 2) := by decide +kernel
theorem dX12_hours_19 : decode cX12_hours 19 = .ok (.ireturn, 1) := by decide +kernel
theorem dX12_hours_20 : decode cX12_hours 20 = .ok (.aload_n 0, 1) := by decide +kernel
theorem dX12_hours_21 : decode cX12_hours 21 = .ok (.invokevirtual 267, 3) := by decide +kernel
theorem dX12_hours_24 : decode cX12_hours 24 = .ok (.iconst 0, 1) := by decide +kernel
theorem dX12_hours_25 : decode cX12_hours 25 = .ok (.istore_n 2, 1) := by decide +kernel
theorem dX12_hours_26 : decode cX12_hours 26 = .ok (.iconst 0, 1) := by decide +kernel
theorem dX12_hours_27 : decode cX12_hours 27 = .ok (.istore_n 3, 1) := by decide +kernel
theorem dX12_hours_28 : decode cX12_hours 28 = .ok (.iload_n 3, 1) := by decide +kernel
theorem dX12_hours_29 : decode cX12_hours 29 = .ok (.iload_n 1, 1) := by decide +kernel
theorem dX12_hours_30 : decode cX12_hours 30 = .ok (.if_icmp .ge 16, 3) := by decide +kernel
theorem dX12_hours_33 : decode cX12_hours 33 = .ok (.iload_n 2, 1) := by decide +kernel
theorem dX12_hours_34 : decode cX12_hours 34 = .ok (.aload_n 0, 1) := by decide +kernel
theorem dX12_hours_35 : decode cX12_hours 35 = .ok (.invokevirtual 287, 3) := by decide +kernel
theorem dX12_hours_38 : decode cX12_hours 38 = .ok (.iadd, 1) := by decide +kernel
theorem dX12_hours_39 : decode cX12_hours 39 = .ok (.istore_n 2, 1) := by decide +kernel
theorem dX12_hours_40 : decode cX12_hours 40 = .ok (.iinc 3 1, 3) := by decide +kernel
theorem dX12_hours_43 : decode cX12_hours 43 = .ok (.goto (-15), 3) := by decide +kernel
theorem dX12_hours_46 : decode cX12_hours 46 = .ok (.aload_n 0, 1) := by decide +kernel
theorem dX12_hours_47 : decode cX12_hours 47 = .ok (.invokevirtual 270, 3) := by decide +kernel
theorem dX12_hours_50 : decode cX12_hours 50 = .ok (.iload_n 2, 1) := by decide +kernel
theorem dX12_hours_51 : decode cX12_hours 51 = .ok (.ireturn, 1) := by decide +kernel
theorem dX12_undo_0 : decode cX12_undo 0 = .ok (.aload_n 0, 1) := by decide +kernel
theorem dX12_undo_1 : decode cX12_undo 1 = .ok (.iconst 0, 1) := by decide +kernel
theorem dX12_undo_2 : decode cX12_undo 2 = .ok (.putfield 1, 3) := by decide +kernel
theorem dX12_undo_5 : decode cX12_undo 5 = .ok (.iload_n 1, 1) := by decide +kernel
theorem dX12_undo_6 : decode cX12_undo 6 = .ok (.i2l, 1) := by decide +kernel
theorem dX12_undo_7 : decode cX12_undo 7 = .ok (.lconst 1, 1) := by decide +kernel
theorem dX12_undo_8 : decode cX12_undo 8 = .ok (.ldc2_w 182, 3) := by decide +kernel
theorem dX12_undo_11 : decode cX12_undo 11 = .ok (.invokestatic 130, 3) := by decide +kernel
theorem dX12_undo_14 : decode cX12_undo 14 = .ok (.ifCond .eq 15, 3) := by decide +kernel
theorem dX12_undo_17 : decode cX12_undo 17 = .ok (.iload_n 1, 1) := by decide +kernel
theorem dX12_undo_18 : decode cX12_undo 18 = .ok (.aload_n 0, 1) := by decide +kernel
theorem dX12_undo_19 : decode cX12_undo 19 = .ok (.getfield 13, 3) := by decide +kernel
theorem dX12_undo_22 : decode cX12_undo 22 = .ok (.sipush 180, 3) := by decide +kernel
theorem dX12_undo_25 : decode cX12_undo 25 = .ok (.iaload, 1) := by decide +kernel
theorem dX12_undo_26 : decode cX12_undo 26 = .ok (.if_icmp .le 6, 3) := by decide +kernel
theorem dX12_undo_29 : decode cX12_undo 29 = .ok (.bipush (-3), 2) := by decide +kernel
theorem dX12_undo_31 : decode cX12_undo 31 = .ok (.ireturn, 1) := by decide +kernel
theorem dX12_undo_32 : decode cX12_undo 32 = .ok (.aload_n 0, 1) := by decide +kernel
theorem dX12_undo_33 : decode cX12_undo 33 = .ok (.getfield 13, 3) := by decide +kernel
theorem dX12_undo_36 : decode cX12_undo 36 = .ok (.sipush 180, 3) := by decide +kernel
theorem dX12_undo_39 : decode cX12_undo 39 = .ok (.dup2, 1) := by decide +kernel
theorem dX12_undo_40 : decode cX12_undo 40 = .ok (.iaload, 1) := by decide +kernel
theorem dX12_undo_41 : decode cX12_undo 41 = .ok (.iload_n 1, 1) := by decide +kernel
theorem dX12_undo_42 : decode cX12_undo 42 = .ok (.isub, 1) := by decide +kernel
theorem dX12_undo_43 : decode cX12_undo 43 = .ok (.iastore, 1) := by decide +kernel
theorem dX12_undo_44 : decode cX12_undo 44 = .ok (.iconst 0, 1) := by decide +kernel
theorem dX12_undo_45 : decode cX12_undo 45 = .ok (.istore_n 2, 1) := by decide +kernel
theorem dX12_undo_46 : decode cX12_undo 46 = .ok (.iload_n 2, 1) := by decide +kernel
theorem dX12_undo_47 : decode cX12_undo 47 = .ok (.bipush 116, 2) := by decide +kernel
theorem dX12_undo_49 : decode cX12_undo 49 = .ok (.if_icmp .ge 40, 3) := by decide +kernel
theorem dX12_undo_52 : decode cX12_undo 52 = .ok (.aload_n 0, 1) := by decide +kernel
theorem dX12_undo_53 : decode cX12_undo 53 = .ok (.getfield 13, 3) := by decide +kernel
theorem dX12_undo_56 : decode cX12_undo 56 = .ok (.bipush 64, 2) := by decide +kernel
theorem dX12_undo_58 : decode cX12_undo 58 = .ok (.iload_n 2, 1) := by decide +kernel
theorem dX12_undo_59 : decode cX12_undo 59 = .ok (.iadd, 1) := by decide +kernel
theorem dX12_undo_60 : decode cX12_undo 60 = .ok (.aload_n 0, 1) := by decide +kernel
theorem dX12_undo_61 : decode cX12_undo 61 = .ok (.getfield 13, 3) := by decide +kernel
theorem dX12_undo_64 : decode cX12_undo 64 = .ok (.sipush 181, 3) := by decide +kernel
theorem dX12_undo_67 : decode cX12_undo 67 = .ok (.bipush 116, 2) := by decide +kernel
theorem dX12_undo_69 : decode cX12_undo 69 = .ok (.aload_n 0, 1) := by decide +kernel
theorem dX12_undo_70 : decode cX12_undo 70 = .ok (.getfield 13, 3) := by decide +kernel
theorem dX12_undo_73 : decode cX12_undo 73 = .ok (.sipush 180, 3) := by decide +kernel
theorem dX12_undo_76 : decode cX12_undo 76 = .ok (.iaload, 1) := by decide +kernel
theorem dX12_undo_77 : decode cX12_undo 77 = .ok (.imul, 1) := by decide +kernel
theorem dX12_undo_78 : decode cX12_undo 78 = .ok (.iadd, 1) := by decide +kernel
theorem dX12_undo_79 : decode cX12_undo 79 = .ok (.iload_n 2, 1) := by decide +kernel
theorem dX12_undo_80 : decode cX12_undo 80 = .ok (.iadd, 1) := by decide +kernel
theorem dX12_undo_81 : decode cX12_undo 81 = .ok (.iaload, 1) := by decide +kernel
theorem dX12_undo_82 : decode cX12_undo 82 = .ok (.iastore, 1) := by decide +kernel
theorem dX12_undo_83 : decode cX12_undo 83 = .ok (.iinc 2 1, 3) := by decide +kernel
theorem dX12_undo_86 : decode cX12_undo 86 = .ok (.goto (-40), 3) := by decide +kernel
theorem dX12_undo_89 : decode cX12_undo 89 = .ok (.aload_n 0, 1) := by decide +kernel
theorem dX12_undo_90 : decode cX12_undo 90 = .ok (.getfield 13, 3) := by decide +kernel
theorem dX12_undo_93 : decode cX12_undo 93 = .ok (.sipush 180, 3) := by decide +kernel
theorem dX12_undo_96 : decode cX12_undo 96 = .ok (.iaload, 1) := by decide +kernel
theorem dX12_undo_97 : decode cX12_undo 97 = .ok (.ireturn, 1) := by decide +kernel
theorem dX12_whyNot_0 : decode cX12_whyNot 0 = .ok (.lload_n 1, 1) := by decide +kernel
theorem dX12_whyNot_1 : decode cX12_whyNot 1 = .ok (.ldc2_w 290, 3) := by decide +kernel
theorem dX12_whyNot_4 : decode cX12_whyNot 4 = .ok (.lcmp, 1) := by decide +kernel
theorem dX12_whyNot_5 : decode cX12_whyNot 5 = .ok (.ifCond .ne 5, 3) := by decide +kernel
theorem dX12_whyNot_8 : decode cX12_whyNot 8 = .ok (.iconst 0, 1) := by decide +kernel
theorem dX12_whyNot_9 : decode cX12_whyNot 9 = .ok (.ireturn, 1) := by decide +kernel
theorem dX12_whyNot_10 : decode cX12_whyNot 10 = .ok (.lload_n 1, 1) := by decide +kernel
theorem dX12_whyNot_11 : decode cX12_whyNot 11 = .ok (.lconst 0, 1) := by decide +kernel
theorem dX12_whyNot_12 : decode cX12_whyNot 12 = .ok (.ldc2_w 283, 3) := by decide +kernel
theorem dX12_whyNot_15 : decode cX12_whyNot 15 = .ok (.invokestatic 130, 3) := by decide +kernel
theorem dX12_whyNot_18 : decode cX12_whyNot 18 = .ok (.ifCond .eq 9, 3) := by decide +kernel
theorem dX12_whyNot_21 : decode cX12_whyNot 21 = .ok (.aload_n 0, 1) := by decide +kernel
theorem dX12_whyNot_22 : decode cX12_whyNot 22 = .ok (.lload_n 1, 1) := by decide +kernel
theorem dX12_whyNot_23 : decode cX12_whyNot 23 = .ok (.invokevirtual 273, 3) := by decide +kernel
theorem dX12_whyNot_26 : decode cX12_whyNot 26 = .ok (.ireturn, 1) := by decide +kernel
theorem dX12_whyNot_27 : decode cX12_whyNot 27 = .ok (.lload_n 1, 1) := by decide +kernel
theorem dX12_whyNot_28 : decode cX12_whyNot 28 = .ok (.ldc2_w 292, 3) := by decide +kernel
theorem dX12_whyNot_31 : decode cX12_whyNot 31 = .ok (.ldc2_w 294, 3) := by decide +kernel
theorem dX12_whyNot_34 : decode cX12_whyNot 34 = .ok (.invokestatic 130, 3) := by decide +kernel
theorem dX12_whyNot_37 : decode cX12_whyNot 37 = .ok (.ifCond .eq 37, 3) := by decide +kernel
theorem dX12_whyNot_40 : decode cX12_whyNot 40 = .ok (.aload_n 0, 1) := by decide +kernel
theorem dX12_whyNot_41 : decode cX12_whyNot 41 = .ok (.lload_n 1, 1) := by decide +kernel
theorem dX12_whyNot_42 : decode cX12_whyNot 42 = .ok (.ldc2_w 292, 3) := by decide +kernel
theorem dX12_whyNot_45 : decode cX12_whyNot 45 = .ok (.lsub, 1) := by decide +kernel
theorem dX12_whyNot_46 : decode cX12_whyNot 46 = .ok (.ldc2_w 292, 3) := by decide +kernel
theorem dX12_whyNot_49 : decode cX12_whyNot 49 = .ok (.ldiv, 1) := by decide +kernel
theorem dX12_whyNot_50 : decode cX12_whyNot 50 = .ok (.invokevirtual 236, 3) := by decide +kernel
theorem dX12_whyNot_53 : decode cX12_whyNot 53 = .ok (.ifCond .eq 19, 3) := by decide +kernel
theorem dX12_whyNot_56 : decode cX12_whyNot 56 = .ok (.aload_n 0, 1) := by decide +kernel
theorem dX12_whyNot_57 : decode cX12_whyNot 57 = .ok (.lload_n 1, 1) := by decide +kernel
theorem dX12_whyNot_58 : decode cX12_whyNot 58 = .ok (.ldc2_w 292, 3) := by decide +kernel
theorem dX12_whyNot_61 : decode cX12_whyNot 61 = .ok (.lrem, 1) := by decide +kernel
theorem dX12_whyNot_62 : decode cX12_whyNot 62 = .ok (.invokevirtual 224, 3) := by decide +kernel
theorem dX12_whyNot_65 : decode cX12_whyNot 65 = .ok (.ifCond .eq 7, 3) := by decide +kernel
theorem dX12_whyNot_68 : decode cX12_whyNot 68 = .ok (.iconst 0, 1) := by decide +kernel
theorem dX12_whyNot_69 : decode cX12_whyNot 69 = .ok (.goto 4, 3) := by decide +kernel
theorem dX12_whyNot_72 : decode cX12_whyNot 72 = .ok (.iconst 1, 1) := by decide +kernel
theorem dX12_whyNot_73 : decode cX12_whyNot 73 = .ok (.ireturn, 1) := by decide +kernel
theorem dX12_whyNot_74 : decode cX12_whyNot 74 = .ok (.lload_n 1, 1) := by decide +kernel
theorem dX12_whyNot_75 : decode cX12_whyNot 75 = .ok (.ldc2_w 296, 3) := by decide +kernel
theorem dX12_whyNot_78 : decode cX12_whyNot 78 = .ok (.ldc2_w 298, 3) := by decide +kernel
theorem dX12_whyNot_81 : decode cX12_whyNot 81 = .ok (.invokestatic 130, 3) := by decide +kernel
theorem dX12_whyNot_84 : decode cX12_whyNot 84 = .ok (.ifCond .eq 13, 3) := by decide +kernel
theorem dX12_whyNot_87 : decode cX12_whyNot 87 = .ok (.aload_n 0, 1) := by decide +kernel
theorem dX12_whyNot_88 : decode cX12_whyNot 88 = .ok (.lload_n 1, 1) := by decide +kernel
theorem dX12_whyNot_89 : decode cX12_whyNot 89 = .ok (.ldc2_w 296, 3) := by decide +kernel
theorem dX12_whyNot_92 : decode cX12_whyNot 92 = .ok (.lsub, 1) := by decide +kernel
theorem dX12_whyNot_93 : decode cX12_whyNot 93 = .ok (.invokevirtual 280, 3) := by decide +kernel
theorem dX12_whyNot_96 : decode cX12_whyNot 96 = .ok (.ireturn, 1) := by decide +kernel
theorem dX12_whyNot_97 : decode cX12_whyNot 97 = .ok (.lload_n 1, 1) := by decide +kernel
theorem dX12_whyNot_98 : decode cX12_whyNot 98 = .ok (.ldc2_w 300, 3) := by decide +kernel
theorem dX12_whyNot_101 : decode cX12_whyNot 101 = .ok (.ldc2_w 302, 3) := by decide +kernel
theorem dX12_whyNot_104 : decode cX12_whyNot 104 = .ok (.invokestatic 130, 3) := by decide +kernel
theorem dX12_whyNot_107 : decode cX12_whyNot 107 = .ok (.ifCond .eq 7, 3) := by decide +kernel
theorem dX12_whyNot_110 : decode cX12_whyNot 110 = .ok (.iconst 0, 1) := by decide +kernel
theorem dX12_whyNot_111 : decode cX12_whyNot 111 = .ok (.goto 4, 3) := by decide +kernel
theorem dX12_whyNot_114 : decode cX12_whyNot 114 = .ok (.iconst 1, 1) := by decide +kernel
theorem dX12_whyNot_115 : decode cX12_whyNot 115 = .ok (.ireturn, 1) := by decide +kernel
theorem dX12_does_0 : decode cX12_does 0 = .ok (.iload_n 1, 1) := by decide +kernel
theorem dX12_does_1 : decode cX12_does 1 = .ok (.iconst (-1), 1) := by decide +kernel
theorem dX12_does_2 : decode cX12_does 2 = .ok (.if_icmp .ne 11, 3) := by decide +kernel
theorem dX12_does_5 : decode cX12_does 5 = .ok (.aload_n 0, 1) := by decide +kernel
theorem dX12_does_6 : decode cX12_does 6 = .ok (.invokevirtual 287, 3) := by decide +kernel
theorem dX12_does_9 : decode cX12_does 9 = .ok (.pop, 1) := by decide +kernel
theorem dX12_does_10 : decode cX12_does 10 = .ok (.goto 83, 3) := by decide +kernel
theorem dX12_does_13 : decode cX12_does 13 = .ok (.iload_n 1, 1) := by decide +kernel
theorem dX12_does_14 : decode cX12_does 14 = .ok (.bipush 100, 2) := by decide +kernel
theorem dX12_does_16 : decode cX12_does 16 = .ok (.if_icmp .ge 12, 3) := by decide +kernel
theorem dX12_does_19 : decode cX12_does 19 = .ok (.aload_n 0, 1) := by decide +kernel
theorem dX12_does_20 : decode cX12_does 20 = .ok (.iload_n 1, 1) := by decide +kernel
theorem dX12_does_21 : decode cX12_does 21 = .ok (.invokevirtual 277, 3) := by decide +kernel
theorem dX12_does_24 : decode cX12_does 24 = .ok (.pop, 1) := by decide +kernel
theorem dX12_does_25 : decode cX12_does 25 = .ok (.goto 68, 3) := by decide +kernel
theorem dX12_does_28 : decode cX12_does 28 = .ok (.iload_n 1, 1) := by decide +kernel
theorem dX12_does_29 : decode cX12_does 29 = .ok (.sipush 1000, 3) := by decide +kernel
theorem dX12_does_32 : decode cX12_does 32 = .ok (.if_icmp .ge 25, 3) := by decide +kernel
theorem dX12_does_35 : decode cX12_does 35 = .ok (.aload_n 0, 1) := by decide +kernel
theorem dX12_does_36 : decode cX12_does 36 = .ok (.getfield 13, 3) := by decide +kernel
theorem dX12_does_39 : decode cX12_does 39 = .ok (.bipush 68, 2) := by decide +kernel
theorem dX12_does_41 : decode cX12_does 41 = .ok (.iload_n 1, 1) := by decide +kernel
theorem dX12_does_42 : decode cX12_does 42 = .ok (.bipush 100, 2) := by decide +kernel
theorem dX12_does_44 : decode cX12_does 44 = .ok (.isub, 1) := by decide +kernel
theorem dX12_does_45 : decode cX12_does 45 = .ok (.bipush 100, 2) := by decide +kernel
theorem dX12_does_47 : decode cX12_does 47 = .ok (.idiv, 1) := by decide +kernel
theorem dX12_does_48 : decode cX12_does 48 = .ok (.iadd, 1) := by decide +kernel
theorem dX12_does_49 : decode cX12_does 49 = .ok (.iload_n 1, 1) := by decide +kernel
theorem dX12_does_50 : decode cX12_does 50 = .ok (.bipush 100, 2) := by decide +kernel
theorem dX12_does_52 : decode cX12_does 52 = .ok (.irem, 1) := by decide +kernel
theorem dX12_does_53 : decode cX12_does 53 = .ok (.iastore, 1) := by decide +kernel
theorem dX12_does_54 : decode cX12_does 54 = .ok (.goto 39, 3) := by decide +kernel
theorem dX12_does_57 : decode cX12_does 57 = .ok (.iload_n 1, 1) := by decide +kernel
theorem dX12_does_58 : decode cX12_does 58 = .ok (.sipush 2000, 3) := by decide +kernel
theorem dX12_does_61 : decode cX12_does 61 = .ok (.if_icmp .ge 20, 3) := by decide +kernel
theorem dX12_does_64 : decode cX12_does 64 = .ok (.aload_n 0, 1) := by decide +kernel
theorem dX12_does_65 : decode cX12_does 65 = .ok (.getfield 13, 3) := by decide +kernel
theorem dX12_does_68 : decode cX12_does 68 = .ok (.bipush 68, 2) := by decide +kernel
theorem dX12_does_70 : decode cX12_does 70 = .ok (.iload_n 1, 1) := by decide +kernel
theorem dX12_does_71 : decode cX12_does 71 = .ok (.iadd, 1) := by decide +kernel
theorem dX12_does_72 : decode cX12_does 72 = .ok (.sipush 1000, 3) := by decide +kernel
theorem dX12_does_75 : decode cX12_does 75 = .ok (.isub, 1) := by decide +kernel
theorem dX12_does_76 : decode cX12_does 76 = .ok (.iconst (-1), 1) := by decide +kernel
theorem dX12_does_77 : decode cX12_does 77 = .ok (.iastore, 1) := by decide +kernel
theorem dX12_does_78 : decode cX12_does 78 = .ok (.goto 15, 3) := by decide +kernel
theorem dX12_does_81 : decode cX12_does 81 = .ok (.aload_n 0, 1) := by decide +kernel
theorem dX12_does_82 : decode cX12_does 82 = .ok (.getfield 13, 3) := by decide +kernel
theorem dX12_does_85 : decode cX12_does 85 = .ok (.bipush 65, 2) := by decide +kernel
theorem dX12_does_87 : decode cX12_does 87 = .ok (.iload_n 1, 1) := by decide +kernel
theorem dX12_does_88 : decode cX12_does 88 = .ok (.sipush 2000, 3) := by decide +kernel
theorem dX12_does_91 : decode cX12_does 91 = .ok (.isub, 1) := by decide +kernel
theorem dX12_does_92 : decode cX12_does 92 = .ok (.iastore, 1) := by decide +kernel
theorem dX12_does_93 : decode cX12_does 93 = .ok (.return_, 1) := by decide +kernel
theorem dX12_tells_0 : decode cX12_tells 0 = .ok (.aload_n 0, 1) := by decide +kernel
theorem dX12_tells_1 : decode cX12_tells 1 = .ok (.iconst 0, 1) := by decide +kernel
theorem dX12_tells_2 : decode cX12_tells 2 = .ok (.putfield 304, 3) := by decide +kernel
theorem dX12_tells_5 : decode cX12_tells 5 = .ok (.iconst 0, 1) := by decide +kernel
theorem dX12_tells_6 : decode cX12_tells 6 = .ok (.istore_n 2, 1) := by decide +kernel
theorem dX12_tells_7 : decode cX12_tells 7 = .ok (.iload_n 2, 1) := by decide +kernel
theorem dX12_tells_8 : decode cX12_tells 8 = .ok (.aload_n 0, 1) := by decide +kernel
theorem dX12_tells_9 : decode cX12_tells 9 = .ok (.getfield 57, 3) := by decide +kernel
theorem dX12_tells_12 : decode cX12_tells 12 = .ok (.iload_n 1, 1) := by decide +kernel
theorem dX12_tells_13 : decode cX12_tells 13 = .ok (.iaload, 1) := by decide +kernel
theorem dX12_tells_14 : decode cX12_tells 14 = .ok (.if_icmp .ge 53, 3) := by decide +kernel
theorem dX12_tells_17 : decode cX12_tells 17 = .ok (.aload_n 0, 1) := by decide +kernel
theorem dX12_tells_18 : decode cX12_tells 18 = .ok (.aload_n 0, 1) := by decide +kernel
theorem dX12_tells_19 : decode cX12_tells 19 = .ok (.aload_n 0, 1) := by decide +kernel
theorem dX12_tells_20 : decode cX12_tells 20 = .ok (.getfield 60, 3) := by decide +kernel
theorem dX12_tells_23 : decode cX12_tells 23 = .ok (.bipush 40, 2) := by decide +kernel
theorem dX12_tells_25 : decode cX12_tells 25 = .ok (.iload_n 1, 1) := by decide +kernel
theorem dX12_tells_26 : decode cX12_tells 26 = .ok (.imul, 1) := by decide +kernel
theorem dX12_tells_27 : decode cX12_tells 27 = .ok (.iload_n 2, 1) := by decide +kernel
theorem dX12_tells_28 : decode cX12_tells 28 = .ok (.iadd, 1) := by decide +kernel
theorem dX12_tells_29 : decode cX12_tells 29 = .ok (.laload, 1) := by decide +kernel
theorem dX12_tells_30 : decode cX12_tells 30 = .ok (.invokevirtual 307, 3) := by decide +kernel
theorem dX12_tells_33 : decode cX12_tells 33 = .ok (.putfield 304, 3) := by decide +kernel
theorem dX12_tells_36 : decode cX12_tells 36 = .ok (.aload_n 0, 1) := by decide +kernel
theorem dX12_tells_37 : decode cX12_tells 37 = .ok (.getfield 304, 3) := by decide +kernel
theorem dX12_tells_40 : decode cX12_tells 40 = .ok (.ifCond .eq 5, 3) := by decide +kernel
theorem dX12_tells_43 : decode cX12_tells 43 = .ok (.iload_n 2, 1) := by decide +kernel
theorem dX12_tells_44 : decode cX12_tells 44 = .ok (.ireturn, 1) := by decide +kernel
theorem dX12_tells_45 : decode cX12_tells 45 = .ok (.aload_n 0, 1) := by decide +kernel
theorem dX12_tells_46 : decode cX12_tells 46 = .ok (.aload_n 0, 1) := by decide +kernel
theorem dX12_tells_47 : decode cX12_tells 47 = .ok (.getfield 60, 3) := by decide +kernel
theorem dX12_tells_50 : decode cX12_tells 50 = .ok (.bipush 40, 2) := by decide +kernel
theorem dX12_tells_52 : decode cX12_tells 52 = .ok (.iload_n 1, 1) := by decide +kernel
theorem dX12_tells_53 : decode cX12_tells 53 = .ok (.imul, 1) := by decide +kernel
theorem dX12_tells_54 : decode cX12_tells 54 = .ok (.iload_n 2, 1) := by decide +kernel
theorem dX12_tells_55 : decode cX12_tells 55 = .ok (.iadd, 1) := by decide +kernel
theorem dX12_tells_56 : decode cX12_tells 56 = .ok (.laload, 1) := by decide +kernel
theorem dX12_tells_57 : decode cX12_tells 57 = .ok (.l2i, 1) := by decide +kernel
theorem dX12_tells_58 : decode cX12_tells 58 = .ok (.invokevirtual 310, 3) := by decide +kernel
theorem dX12_tells_61 : decode cX12_tells 61 = .ok (.iinc 2 1, 3) := by decide +kernel
theorem dX12_tells_64 : decode cX12_tells 64 = .ok (.goto (-57), 3) := by decide +kernel
theorem dX12_tells_67 : decode cX12_tells 67 = .ok (.aload_n 0, 1) := by decide +kernel
theorem dX12_tells_68 : decode cX12_tells 68 = .ok (.getfield 57, 3) := by decide +kernel
theorem dX12_tells_71 : decode cX12_tells 71 = .ok (.iload_n 1, 1) := by decide +kernel
theorem dX12_tells_72 : decode cX12_tells 72 = .ok (.iaload, 1) := by decide +kernel
theorem dX12_tells_73 : decode cX12_tells 73 = .ok (.ireturn, 1) := by decide +kernel
theorem dX12_noTray_0 : decode cX12_noTray 0 = .ok (.iload_n 1, 1) := by decide +kernel
theorem dX12_noTray_1 : decode cX12_noTray 1 = .ok (.i2l, 1) := by decide +kernel
theorem dX12_noTray_2 : decode cX12_noTray 2 = .ok (.lconst 0, 1) := by decide +kernel
theorem dX12_noTray_3 : decode cX12_noTray 3 = .ok (.ldc2_w 313, 3) := by decide +kernel
theorem dX12_noTray_6 : decode cX12_noTray 6 = .ok (.invokestatic 130, 3) := by decide +kernel
theorem dX12_noTray_9 : decode cX12_noTray 9 = .ok (.ifCond .ne 8, 3) := by decide +kernel
theorem dX12_noTray_12 : decode cX12_noTray 12 = .ok (.bipush (-2), 2) := by decide +kernel
theorem dX12_noTray_14 : decode cX12_noTray 14 = .ok (.goto 19, 3) := by decide +kernel
theorem dX12_noTray_17 : decode cX12_noTray 17 = .ok (.aload_n 0, 1) := by decide +kernel
theorem dX12_noTray_18 : decode cX12_noTray 18 = .ok (.getfield 54, 3) := by decide +kernel
theorem dX12_noTray_21 : decode cX12_noTray 21 = .ok (.iload_n 1, 1) := by decide +kernel
theorem dX12_noTray_22 : decode cX12_noTray 22 = .ok (.iaload, 1) := by decide +kernel
theorem dX12_noTray_23 : decode cX12_noTray 23 = .ok (.iconst (-1), 1) := by decide +kernel
theorem dX12_noTray_24 : decode cX12_noTray 24 = .ok (.if_icmp .ne 8, 3) := by decide +kernel
theorem dX12_noTray_27 : decode cX12_noTray 27 = .ok (.bipush (-6), 2) := by decide +kernel
theorem dX12_noTray_29 : decode cX12_noTray 29 = .ok (.goto 4, 3) := by decide +kernel
theorem dX12_noTray_32 : decode cX12_noTray 32 = .ok (.iconst 0, 1) := by decide +kernel
theorem dX12_noTray_33 : decode cX12_noTray 33 = .ok (.ireturn, 1) := by decide +kernel
theorem dX12_heardAll_0 : decode cX12_heardAll 0 = .ok (.iconst 1, 1) := by decide +kernel
theorem dX12_heardAll_1 : decode cX12_heardAll 1 = .ok (.aload_n 0, 1) := by decide +kernel
theorem dX12_heardAll_2 : decode cX12_heardAll 2 = .ok (.getfield 13, 3) := by decide +kernel
theorem dX12_heardAll_5 : decode cX12_heardAll 5 = .ok (.iconst 3, 1) := by decide +kernel
theorem dX12_heardAll_6 : decode cX12_heardAll 6 = .ok (.iaload, 1) := by decide +kernel
theorem dX12_heardAll_7 : decode cX12_heardAll 7 = .ok (.ishl, 1) := by decide +kernel
theorem dX12_heardAll_8 : decode cX12_heardAll 8 = .ok (.iconst 1, 1) := by decide +kernel
theorem dX12_heardAll_9 : decode cX12_heardAll 9 = .ok (.isub, 1) := by decide +kernel
theorem dX12_heardAll_10 : decode cX12_heardAll 10 = .ok (.istore_n 1, 1) := by decide +kernel
theorem dX12_heardAll_11 : decode cX12_heardAll 11 = .ok (.iconst 0, 1) := by decide +kernel
theorem dX12_heardAll_12 : decode cX12_heardAll 12 = .ok (.istore_n 2, 1) := by decide +kernel
theorem dX12_heardAll_13 : decode cX12_heardAll 13 = .ok (.iload_n 2, 1) := by decide +kernel
theorem dX12_heardAll_14 : decode cX12_heardAll 14 = .ok (.aload_n 0, 1) := by decide +kernel
theorem dX12_heardAll_15 : decode cX12_heardAll 15 = .ok (.getfield 13, 3) := by decide +kernel
theorem dX12_heardAll_18 : decode cX12_heardAll 18 = .ok (.bipush 67, 2) := by decide +kernel
theorem dX12_heardAll_20 : decode cX12_heardAll 20 = .ok (.iaload, 1) := by decide +kernel
theorem dX12_heardAll_21 : decode cX12_heardAll 21 = .ok (.if_icmp .ge 21, 3) := by decide +kernel
theorem dX12_heardAll_24 : decode cX12_heardAll 24 = .ok (.iload_n 1, 1) := by decide +kernel
theorem dX12_heardAll_25 : decode cX12_heardAll 25 = .ok (.aload_n 0, 1) := by decide +kernel
theorem dX12_heardAll_26 : decode cX12_heardAll 26 = .ok (.getfield 13, 3) := by decide +kernel
theorem dX12_heardAll_29 : decode cX12_heardAll 29 = .ok (.bipush 92, 2) := by decide +kernel
theorem dX12_heardAll_31 : decode cX12_heardAll 31 = .ok (.iload_n 2, 1) := by decide +kernel
theorem dX12_heardAll_32 : decode cX12_heardAll 32 = .ok (.iadd, 1) := by decide +kernel
theorem dX12_heardAll_33 : decode cX12_heardAll 33 = .ok (.iaload, 1) := by decide +kernel
theorem dX12_heardAll_34 : decode cX12_heardAll 34 = .ok (.iand, 1) := by decide +kernel
theorem dX12_heardAll_35 : decode cX12_heardAll 35 = .ok (.istore_n 1, 1) := by decide +kernel
theorem dX12_heardAll_36 : decode cX12_heardAll 36 = .ok (.iinc 2 1, 3) := by decide +kernel
theorem dX12_heardAll_39 : decode cX12_heardAll 39 = .ok (.goto (-26), 3) := by decide +kernel
theorem dX12_heardAll_42 : decode cX12_heardAll 42 = .ok (.iload_n 1, 1) := by decide +kernel
theorem dX12_heardAll_43 : decode cX12_heardAll 43 = .ok (.ireturn, 1) := by decide +kernel
theorem dX12_judge_0 : decode cX12_judge 0 = .ok (.aload_n 0, 1) := by decide +kernel
theorem dX12_judge_1 : decode cX12_judge 1 = .ok (.iconst 0, 1) := by decide +kernel
theorem dX12_judge_2 : decode cX12_judge 2 = .ok (.putfield 1, 3) := by decide +kernel
theorem dX12_judge_5 : decode cX12_judge 5 = .ok (.iload_n 2, 1) := by decide +kernel
theorem dX12_judge_6 : decode cX12_judge 6 = .ok (.i2l, 1) := by decide +kernel
theorem dX12_judge_7 : decode cX12_judge 7 = .ok (.lconst 0, 1) := by decide +kernel
theorem dX12_judge_8 : decode cX12_judge 8 = .ok (.ldc2_w 313, 3) := by decide +kernel
theorem dX12_judge_11 : decode cX12_judge 11 = .ok (.invokestatic 130, 3) := by decide +kernel
theorem dX12_judge_14 : decode cX12_judge 14 = .ok (.ifCond .ne 6, 3) := by decide +kernel
theorem dX12_judge_17 : decode cX12_judge 17 = .ok (.bipush (-2), 2) := by decide +kernel
theorem dX12_judge_19 : decode cX12_judge 19 = .ok (.ireturn, 1) := by decide +kernel
theorem dX12_judge_20 : decode cX12_judge 20 = .ok (.aload_n 0, 1) := by decide +kernel
theorem dX12_judge_21 : decode cX12_judge 21 = .ok (.iload_n 1, 1) := by decide +kernel
theorem dX12_judge_22 : decode cX12_judge 22 = .ok (.invokevirtual 315, 3) := by decide +kernel
theorem dX12_judge_25 : decode cX12_judge 25 = .ok (.istore_n 3, 1) := by decide +kernel
theorem dX12_judge_26 : decode cX12_judge 26 = .ok (.iload_n 3, 1) := by decide +kernel
theorem dX12_judge_27 : decode cX12_judge 27 = .ok (.ifCond .eq 5, 3) := by decide +kernel
theorem dX12_judge_30 : decode cX12_judge 30 = .ok (.iload_n 3, 1) := by decide +kernel
theorem dX12_judge_31 : decode cX12_judge 31 = .ok (.ireturn, 1) := by decide +kernel
theorem dX12_judge_32 : decode cX12_judge 32 = .ok (.aload_n 0, 1) := by decide +kernel
theorem dX12_judge_33 : decode cX12_judge 33 = .ok (.invokevirtual 267, 3) := by decide +kernel
theorem dX12_judge_36 : decode cX12_judge 36 = .ok (.aload_n 0, 1) := by decide +kernel
theorem dX12_judge_37 : decode cX12_judge 37 = .ok (.iload_n 1, 1) := by decide +kernel
theorem dX12_judge_38 : decode cX12_judge 38 = .ok (.invokevirtual 318, 3) := by decide +kernel
theorem dX12_judge_41 : decode cX12_judge 41 = .ok (.istore 4, 2) := by decide +kernel
theorem dX12_judge_43 : decode cX12_judge 43 = .ok (.aload_n 0, 1) := by decide +kernel
theorem dX12_judge_44 : decode cX12_judge 44 = .ok (.getfield 13, 3) := by decide +kernel
theorem dX12_judge_47 : decode cX12_judge 47 = .ok (.bipush 64, 2) := by decide +kernel
theorem dX12_judge_49 : decode cX12_judge 49 = .ok (.iaload, 1) := by decide +kernel
theorem dX12_judge_50 : decode cX12_judge 50 = .ok (.istore 5, 2) := by decide +kernel
theorem dX12_judge_52 : decode cX12_judge 52 = .ok (.aload_n 0, 1) := by decide +kernel
theorem dX12_judge_53 : decode cX12_judge 53 = .ok (.invokevirtual 321, 3) := by decide +kernel
theorem dX12_judge_56 : decode cX12_judge 56 = .ok (.istore 6, 2) := by decide +kernel
theorem dX12_judge_58 : decode cX12_judge 58 = .ok (.aload_n 0, 1) := by decide +kernel
theorem dX12_judge_59 : decode cX12_judge 59 = .ok (.invokevirtual 324, 3) := by decide +kernel
theorem dX12_judge_62 : decode cX12_judge 62 = .ok (.iload_n 2, 1) := by decide +kernel
theorem dX12_judge_63 : decode cX12_judge 63 = .ok (.ifCond .ne 19, 3) := by decide +kernel
theorem dX12_judge_66 : decode cX12_judge 66 = .ok (.aload_n 0, 1) := by decide +kernel
theorem dX12_judge_67 : decode cX12_judge 67 = .ok (.getfield 304, 3) := by decide +kernel
theorem dX12_judge_70 : decode cX12_judge 70 = .ok (.ifCond .ne 7, 3) := by decide +kernel
theorem dX12_judge_73 : decode cX12_judge 73 = .ok (.iconst (-1), 1) := by decide +kernel
theorem dX12_judge_74 : decode cX12_judge 74 = .ok (.goto 32, 3) := by decide +kernel
theorem dX12_judge_77 : decode cX12_judge 77 = .ok (.iload 4, 2) := by decide +kernel
theorem dX12_judge_79 : decode cX12_judge 79 = .ok (.goto 27, 3) := by decide +kernel
theorem dX12_judge_82 : decode cX12_judge 82 = .ok (.iload_n 2, 1) := by decide +kernel
theorem dX12_judge_83 : decode cX12_judge 83 = .ok (.iconst 1, 1) := by decide +kernel
theorem dX12_judge_84 : decode cX12_judge 84 = .ok (.if_icmp .ne 10, 3) := by decide +kernel
theorem dX12_judge_87 : decode cX12_judge 87 = .ok (.aload_n 0, 1) := by decide +kernel
theorem dX12_judge_88 : decode cX12_judge 88 = .ok (.getfield 304, 3) := by decide +kernel
theorem dX12_judge_91 : decode cX12_judge 91 = .ok (.goto 15, 3) := by decide +kernel
theorem dX12_judge_94 : decode cX12_judge 94 = .ok (.iload_n 2, 1) := by decide +kernel
theorem dX12_judge_95 : decode cX12_judge 95 = .ok (.iconst 2, 1) := by decide +kernel
theorem dX12_judge_96 : decode cX12_judge 96 = .ok (.if_icmp .ne 8, 3) := by decide +kernel
theorem dX12_judge_99 : decode cX12_judge 99 = .ok (.iload 5, 2) := by decide +kernel
theorem dX12_judge_101 : decode cX12_judge 101 = .ok (.goto 5, 3) := by decide +kernel
theorem dX12_judge_104 : decode cX12_judge 104 = .ok (.iload 6, 2) := by decide +kernel
theorem dX12_judge_106 : decode cX12_judge 106 = .ok (.ireturn, 1) := by decide +kernel
theorem dX12_perform_0 : decode cX12_perform 0 = .ok (.aload_n 0, 1) := by decide +kernel
theorem dX12_perform_1 : decode cX12_perform 1 = .ok (.iconst 0, 1) := by decide +kernel
theorem dX12_perform_2 : decode cX12_perform 2 = .ok (.putfield 1, 3) := by decide +kernel
theorem dX12_perform_5 : decode cX12_perform 5 = .ok (.aload_n 0, 1) := by decide +kernel
theorem dX12_perform_6 : decode cX12_perform 6 = .ok (.iload_n 1, 1) := by decide +kernel
theorem dX12_perform_7 : decode cX12_perform 7 = .ok (.invokevirtual 315, 3) := by decide +kernel
theorem dX12_perform_10 : decode cX12_perform 10 = .ok (.istore_n 2, 1) := by decide +kernel
theorem dX12_perform_11 : decode cX12_perform 11 = .ok (.iload_n 2, 1) := by decide +kernel
theorem dX12_perform_12 : decode cX12_perform 12 = .ok (.ifCond .eq 5, 3) := by decide +kernel
theorem dX12_perform_15 : decode cX12_perform 15 = .ok (.iload_n 2, 1) := by decide +kernel
theorem dX12_perform_16 : decode cX12_perform 16 = .ok (.ireturn, 1) := by decide +kernel
theorem dX12_perform_17 : decode cX12_perform 17 = .ok (.aload_n 0, 1) := by decide +kernel
theorem dX12_perform_18 : decode cX12_perform 18 = .ok (.invokevirtual 267, 3) := by decide +kernel
theorem dX12_perform_21 : decode cX12_perform 21 = .ok (.aload_n 0, 1) := by decide +kernel
theorem dX12_perform_22 : decode cX12_perform 22 = .ok (.iload_n 1, 1) := by decide +kernel
theorem dX12_perform_23 : decode cX12_perform 23 = .ok (.invokevirtual 318, 3) := by decide +kernel
theorem dX12_perform_26 : decode cX12_perform 26 = .ok (.istore_n 3, 1) := by decide +kernel
theorem dX12_perform_27 : decode cX12_perform 27 = .ok (.iload_n 3, 1) := by decide +kernel
theorem dX12_perform_28 : decode cX12_perform 28 = .ok (.ifCond .le 7, 3) := by decide +kernel
theorem dX12_perform_31 : decode cX12_perform 31 = .ok (.aload_n 0, 1) := by decide +kernel
theorem dX12_perform_32 : decode cX12_perform 32 = .ok (.invokevirtual 270, 3) := by decide +kernel
theorem dX12_perform_35 : decode cX12_perform 35 = .ok (.iload_n 3, 1) := by decide +kernel
theorem dX12_perform_36 : decode cX12_perform 36 = .ok (.ireturn, 1) := by decide +kernel
theorem dX12_draw_0 : decode cX12_draw 0 = .ok (.aload_n 0, 1) := by decide +kernel
theorem dX12_draw_1 : decode cX12_draw 1 = .ok (.getfield 13, 3) := by decide +kernel
theorem dX12_draw_4 : decode cX12_draw 4 = .ok (.bipush 66, 2) := by decide +kernel
theorem dX12_draw_6 : decode cX12_draw 6 = .ok (.ldc_w 327, 3) := by decide +kernel
theorem dX12_draw_9 : decode cX12_draw 9 = .ok (.aload_n 0, 1) := by decide +kernel
theorem dX12_draw_10 : decode cX12_draw 10 = .ok (.getfield 13, 3) := by decide +kernel
theorem dX12_draw_13 : decode cX12_draw 13 = .ok (.bipush 66, 2) := by decide +kernel
theorem dX12_draw_15 : decode cX12_draw 15 = .ok (.iaload, 1) := by decide +kernel
theorem dX12_draw_16 : decode cX12_draw 16 = .ok (.imul, 1) := by decide +kernel
theorem dX12_draw_17 : decode cX12_draw 17 = .ok (.sipush 12345, 3) := by decide +kernel
theorem dX12_draw_20 : decode cX12_draw 20 = .ok (.iadd, 1) := by decide +kernel
theorem dX12_draw_21 : decode cX12_draw 21 = .ok (.iastore, 1) := by decide +kernel
theorem dX12_draw_22 : decode cX12_draw 22 = .ok (.aload_n 0, 1) := by decide +kernel
theorem dX12_draw_23 : decode cX12_draw 23 = .ok (.getfield 13, 3) := by decide +kernel
theorem dX12_draw_26 : decode cX12_draw 26 = .ok (.bipush 66, 2) := by decide +kernel
theorem dX12_draw_28 : decode cX12_draw 28 = .ok (.iaload, 1) := by decide +kernel
theorem dX12_draw_29 : decode cX12_draw 29 = .ok (.bipush 16, 2) := by decide +kernel
theorem dX12_draw_31 : decode cX12_draw 31 = .ok (.iushr, 1) := by decide +kernel
theorem dX12_draw_32 : decode cX12_draw 32 = .ok (.iload_n 1, 1) := by decide +kernel
theorem dX12_draw_33 : decode cX12_draw 33 = .ok (.irem, 1) := by decide +kernel
theorem dX12_draw_34 : decode cX12_draw 34 = .ok (.ireturn, 1) := by decide +kernel
theorem dX12_drawn_0 : decode cX12_drawn 0 = .ok (.aload_n 0, 1) := by decide +kernel
theorem dX12_drawn_1 : decode cX12_drawn 1 = .ok (.iconst 5, 1) := by decide +kernel
theorem dX12_drawn_2 : decode cX12_drawn 2 = .ok (.invokevirtual 328, 3) := by decide +kernel
theorem dX12_drawn_5 : decode cX12_drawn 5 = .ok (.istore_n 1, 1) := by decide +kernel
theorem dX12_drawn_6 : decode cX12_drawn 6 = .ok (.iload_n 1, 1) := by decide +kernel
theorem dX12_drawn_7 : decode cX12_drawn 7 = .ok (.iconst 2, 1) := by decide +kernel
theorem dX12_drawn_8 : decode cX12_drawn 8 = .ok (.if_icmp .ge 5, 3) := by decide +kernel
theorem dX12_drawn_11 : decode cX12_drawn 11 = .ok (.iconst (-1), 1) := by decide +kernel
theorem dX12_drawn_12 : decode cX12_drawn 12 = .ok (.ireturn, 1) := by decide +kernel
theorem dX12_drawn_13 : decode cX12_drawn 13 = .ok (.iload_n 1, 1) := by decide +kernel
theorem dX12_drawn_14 : decode cX12_drawn 14 = .ok (.iconst 2, 1) := by decide +kernel
theorem dX12_drawn_15 : decode cX12_drawn 15 = .ok (.if_icmp .ne 14, 3) := by decide +kernel
theorem dX12_drawn_18 : decode cX12_drawn 18 = .ok (.aload_n 0, 1) := by decide +kernel
theorem dX12_drawn_19 : decode cX12_drawn 19 = .ok (.aload_n 0, 1) := by decide +kernel
theorem dX12_drawn_20 : decode cX12_drawn 20 = .ok (.getfield 13, 3) := by decide +kernel
theorem dX12_drawn_23 : decode cX12_drawn 23 = .ok (.iconst 1, 1) := by decide +kernel
theorem dX12_drawn_24 : decode cX12_drawn 24 = .ok (.iaload, 1) := by decide +kernel
theorem dX12_drawn_25 : decode cX12_drawn 25 = .ok (.invokevirtual 328, 3) := by decide +kernel
theorem dX12_drawn_28 : decode cX12_drawn 28 = .ok (.ireturn, 1) := by decide +kernel
theorem dX12_drawn_29 : decode cX12_drawn 29 = .ok (.iload_n 1, 1) := by decide +kernel
theorem dX12_drawn_30 : decode cX12_drawn 30 = .ok (.iconst 4, 1) := by decide +kernel
theorem dX12_drawn_31 : decode cX12_drawn 31 = .ok (.if_icmp .ne 14, 3) := by decide +kernel
theorem dX12_drawn_34 : decode cX12_drawn 34 = .ok (.sipush 2000, 3) := by decide +kernel
theorem dX12_drawn_37 : decode cX12_drawn 37 = .ok (.aload_n 0, 1) := by decide +kernel
theorem dX12_drawn_38 : decode cX12_drawn 38 = .ok (.bipush 6, 2) := by decide +kernel
theorem dX12_drawn_40 : decode cX12_drawn 40 = .ok (.invokevirtual 328, 3) := by decide +kernel
theorem dX12_drawn_43 : decode cX12_drawn 43 = .ok (.iadd, 1) := by decide +kernel
theorem dX12_drawn_44 : decode cX12_drawn 44 = .ok (.ireturn, 1) := by decide +kernel
theorem dX12_drawn_45 : decode cX12_drawn 45 = .ok (.aload_n 0, 1) := by decide +kernel
theorem dX12_drawn_46 : decode cX12_drawn 46 = .ok (.getfield 13, 3) := by decide +kernel
theorem dX12_drawn_49 : decode cX12_drawn 49 = .ok (.iconst 4, 1) := by decide +kernel
theorem dX12_drawn_50 : decode cX12_drawn 50 = .ok (.iaload, 1) := by decide +kernel
theorem dX12_drawn_51 : decode cX12_drawn 51 = .ok (.ifCond .eq 12, 3) := by decide +kernel
theorem dX12_drawn_54 : decode cX12_drawn 54 = .ok (.aload_n 0, 1) := by decide +kernel
theorem dX12_drawn_55 : decode cX12_drawn 55 = .ok (.getfield 13, 3) := by decide +kernel
theorem dX12_drawn_58 : decode cX12_drawn 58 = .ok (.iconst 3, 1) := by decide +kernel
theorem dX12_drawn_59 : decode cX12_drawn 59 = .ok (.iaload, 1) := by decide +kernel
theorem dX12_drawn_60 : decode cX12_drawn 60 = .ok (.ifCond .ne 6, 3) := by decide +kernel
theorem dX12_drawn_63 : decode cX12_drawn 63 = .ok (.bipush (-9), 2) := by decide +kernel
theorem dX12_drawn_65 : decode cX12_drawn 65 = .ok (.ireturn, 1) := by decide +kernel
theorem dX12_drawn_66 : decode cX12_drawn 66 = .ok (.aload_n 0, 1) := by decide +kernel
theorem dX12_drawn_67 : decode cX12_drawn 67 = .ok (.aload_n 0, 1) := by decide +kernel
theorem dX12_drawn_68 : decode cX12_drawn 68 = .ok (.getfield 13, 3) := by decide +kernel
theorem dX12_drawn_71 : decode cX12_drawn 71 = .ok (.iconst 4, 1) := by decide +kernel
theorem dX12_drawn_72 : decode cX12_drawn 72 = .ok (.iaload, 1) := by decide +kernel
theorem dX12_drawn_73 : decode cX12_drawn 73 = .ok (.invokevirtual 328, 3) := by decide +kernel
theorem dX12_drawn_76 : decode cX12_drawn 76 = .ok (.istore_n 2, 1) := by decide +kernel
theorem dX12_drawn_77 : decode cX12_drawn 77 = .ok (.bipush 100, 2) := by decide +kernel
theorem dX12_drawn_79 : decode cX12_drawn 79 = .ok (.bipush 100, 2) := by decide +kernel
theorem dX12_drawn_81 : decode cX12_drawn 81 = .ok (.iload_n 2, 1) := by decide +kernel
theorem dX12_drawn_82 : decode cX12_drawn 82 = .ok (.imul, 1) := by decide +kernel
theorem dX12_drawn_83 : decode cX12_drawn 83 = .ok (.iadd, 1) := by decide +kernel
theorem dX12_drawn_84 : decode cX12_drawn 84 = .ok (.aload_n 0, 1) := by decide +kernel
theorem dX12_drawn_85 : decode cX12_drawn 85 = .ok (.aload_n 0, 1) := by decide +kernel
theorem dX12_drawn_86 : decode cX12_drawn 86 = .ok (.getfield 13, 3) := by decide +kernel
theorem dX12_drawn_89 : decode cX12_drawn 89 = .ok (.iconst 3, 1) := by decide +kernel
theorem dX12_drawn_90 : decode cX12_drawn 90 = .ok (.iaload, 1) := by decide +kernel
theorem dX12_drawn_91 : decode cX12_drawn 91 = .ok (.invokevirtual 328, 3) := by decide +kernel
theorem dX12_drawn_94 : decode cX12_drawn 94 = .ok (.iadd, 1) := by decide +kernel
theorem dX12_drawn_95 : decode cX12_drawn 95 = .ok (.ireturn, 1) := by decide +kernel
theorem dX12_days_0 : decode cX12_days 0 = .ok (.aload_n 0, 1) := by decide +kernel
theorem dX12_days_1 : decode cX12_days 1 = .ok (.iconst 0, 1) := by decide +kernel
theorem dX12_days_2 : decode cX12_days 2 = .ok (.putfield 1, 3) := by decide +kernel
theorem dX12_days_5 : decode cX12_days 5 = .ok (.iload_n 2, 1) := by decide +kernel
theorem dX12_days_6 : decode cX12_days 6 = .ok (.i2l, 1) := by decide +kernel
theorem dX12_days_7 : decode cX12_days 7 = .ok (.lconst 1, 1) := by decide +kernel
theorem dX12_days_8 : decode cX12_days 8 = .ok (.ldc2_w 331, 3) := by decide +kernel
theorem dX12_days_11 : decode cX12_days 11 = .ok (.invokestatic 130, 3) := by decide +kernel
theorem dX12_days_14 : decode cX12_days 14 = .ok (.ifCond .ne 6, 3) := by decide +kernel
theorem dX12_days_17 : decode cX12_days 17 = .ok (.bipush (-3), 2) := by decide +kernel
theorem dX12_days_19 : decode cX12_days 19 = .ok (.ireturn, 1) := by decide +kernel
theorem dX12_days_20 : decode cX12_days 20 = .ok (.aload_n 0, 1) := by decide +kernel
theorem dX12_days_21 : decode cX12_days 21 = .ok (.invokevirtual 267, 3) := by decide +kernel
theorem dX12_days_24 : decode cX12_days 24 = .ok (.aload_n 0, 1) := by decide +kernel
theorem dX12_days_25 : decode cX12_days 25 = .ok (.getfield 13, 3) := by decide +kernel
theorem dX12_days_28 : decode cX12_days 28 = .ok (.bipush 66, 2) := by decide +kernel
theorem dX12_days_30 : decode cX12_days 30 = .ok (.iload_n 1, 1) := by decide +kernel
theorem dX12_days_31 : decode cX12_days 31 = .ok (.iastore, 1) := by decide +kernel
theorem dX12_days_32 : decode cX12_days 32 = .ok (.iconst 0, 1) := by decide +kernel
theorem dX12_days_33 : decode cX12_days 33 = .ok (.istore_n 3, 1) := by decide +kernel
theorem dX12_days_34 : decode cX12_days 34 = .ok (.iconst 0, 1) := by decide +kernel
theorem dX12_days_35 : decode cX12_days 35 = .ok (.istore 4, 2) := by decide +kernel
theorem dX12_days_37 : decode cX12_days 37 = .ok (.iload 4, 2) := by decide +kernel
theorem dX12_days_39 : decode cX12_days 39 = .ok (.iload_n 2, 1) := by decide +kernel
theorem dX12_days_40 : decode cX12_days 40 = .ok (.if_icmp .ge 37, 3) := by decide +kernel
theorem dX12_days_43 : decode cX12_days 43 = .ok (.aload_n 0, 1) := by decide +kernel
theorem dX12_days_44 : decode cX12_days 44 = .ok (.invokevirtual 333, 3) := by decide +kernel
theorem dX12_days_47 : decode cX12_days 47 = .ok (.istore 5, 2) := by decide +kernel
theorem dX12_days_49 : decode cX12_days 49 = .ok (.aload_n 0, 1) := by decide +kernel
theorem dX12_days_50 : decode cX12_days 50 = .ok (.iload 5, 2) := by decide +kernel
theorem dX12_days_52 : decode cX12_days 52 = .ok (.i2l, 1) := by decide +kernel
theorem dX12_days_53 : decode cX12_days 53 = .ok (.invokevirtual 307, 3) := by decide +kernel
theorem dX12_days_56 : decode cX12_days 56 = .ok (.ifCond .eq 6, 3) := by decide +kernel
theorem dX12_days_59 : decode cX12_days 59 = .ok (.goto 12, 3) := by decide +kernel
theorem dX12_days_62 : decode cX12_days 62 = .ok (.aload_n 0, 1) := by decide +kernel
theorem dX12_days_63 : decode cX12_days 63 = .ok (.iload 5, 2) := by decide +kernel
theorem dX12_days_65 : decode cX12_days 65 = .ok (.invokevirtual 310, 3) := by decide +kernel
theorem dX12_days_68 : decode cX12_days 68 = .ok (.iinc 3 1, 3) := by decide +kernel
theorem dX12_days_71 : decode cX12_days 71 = .ok (.iinc 4 1, 3) := by decide +kernel
theorem dX12_days_74 : decode cX12_days 74 = .ok (.goto (-37), 3) := by decide +kernel
theorem dX12_days_77 : decode cX12_days 77 = .ok (.iload_n 3, 1) := by decide +kernel
theorem dX12_days_78 : decode cX12_days 78 = .ok (.ifCond .le 10, 3) := by decide +kernel
theorem dX12_days_81 : decode cX12_days 81 = .ok (.aload_n 0, 1) := by decide +kernel
theorem dX12_days_82 : decode cX12_days 82 = .ok (.invokevirtual 270, 3) := by decide +kernel
theorem dX12_days_85 : decode cX12_days 85 = .ok (.goto 7, 3) := by decide +kernel
theorem dX12_days_88 : decode cX12_days 88 = .ok (.aload_n 0, 1) := by decide +kernel
theorem dX12_days_89 : decode cX12_days 89 = .ok (.invokevirtual 324, 3) := by decide +kernel
theorem dX12_days_92 : decode cX12_days 92 = .ok (.iload_n 3, 1) := by decide +kernel
theorem dX12_days_93 : decode cX12_days 93 = .ok (.ireturn, 1) := by decide +kernel
theorem dX12_comesIn_0 : decode cX12_comesIn 0 = .ok (.aload_n 0, 1) := by decide +kernel
theorem dX12_comesIn_1 : decode cX12_comesIn 1 = .ok (.iconst 0, 1) := by decide +kernel
theorem dX12_comesIn_2 : decode cX12_comesIn 2 = .ok (.putfield 1, 3) := by decide +kernel
theorem dX12_comesIn_5 : decode cX12_comesIn 5 = .ok (.aload_n 0, 1) := by decide +kernel
theorem dX12_comesIn_6 : decode cX12_comesIn 6 = .ok (.iload_n 1, 1) := by decide +kernel
theorem dX12_comesIn_7 : decode cX12_comesIn 7 = .ok (.i2l, 1) := by decide +kernel
theorem dX12_comesIn_8 : decode cX12_comesIn 8 = .ok (.invokevirtual 239, 3) := by decide +kernel
theorem dX12_comesIn_11 : decode cX12_comesIn 11 = .ok (.ifCond .eq 12, 3) := by decide +kernel
theorem dX12_comesIn_14 : decode cX12_comesIn 14 = .ok (.aload_n 0, 1) := by decide +kernel
theorem dX12_comesIn_15 : decode cX12_comesIn 15 = .ok (.iload_n 2, 1) := by decide +kernel
theorem dX12_comesIn_16 : decode cX12_comesIn 16 = .ok (.i2l, 1) := by decide +kernel
theorem dX12_comesIn_17 : decode cX12_comesIn 17 = .ok (.invokevirtual 244, 3) := by decide +kernel
theorem dX12_comesIn_20 : decode cX12_comesIn 20 = .ok (.ifCond .ne 6, 3) := by decide +kernel
theorem dX12_comesIn_23 : decode cX12_comesIn 23 = .ok (.bipush (-2), 2) := by decide +kernel
theorem dX12_comesIn_25 : decode cX12_comesIn 25 = .ok (.ireturn, 1) := by decide +kernel
theorem dX12_comesIn_26 : decode cX12_comesIn 26 = .ok (.aload_n 0, 1) := by decide +kernel
theorem dX12_comesIn_27 : decode cX12_comesIn 27 = .ok (.invokevirtual 267, 3) := by decide +kernel
theorem dX12_comesIn_30 : decode cX12_comesIn 30 = .ok (.iconst (-1), 1) := by decide +kernel
theorem dX12_comesIn_31 : decode cX12_comesIn 31 = .ok (.istore_n 3, 1) := by decide +kernel
theorem dX12_comesIn_32 : decode cX12_comesIn 32 = .ok (.iconst 0, 1) := by decide +kernel
theorem dX12_comesIn_33 : decode cX12_comesIn 33 = .ok (.istore 4, 2) := by decide +kernel
theorem dX12_comesIn_35 : decode cX12_comesIn 35 = .ok (.iload 4, 2) := by decide +kernel
theorem dX12_comesIn_37 : decode cX12_comesIn 37 = .ok (.bipush 99, 2) := by decide +kernel
theorem dX12_comesIn_39 : decode cX12_comesIn 39 = .ok (.if_icmp .gt 39, 3) := by decide +kernel
theorem dX12_comesIn_42 : decode cX12_comesIn 42 = .ok (.iload_n 3, 1) := by decide +kernel
theorem dX12_comesIn_43 : decode cX12_comesIn 43 = .ok (.iconst (-1), 1) := by decide +kernel
theorem dX12_comesIn_44 : decode cX12_comesIn 44 = .ok (.if_icmp .ne 34, 3) := by decide +kernel
theorem dX12_comesIn_47 : decode cX12_comesIn 47 = .ok (.aload_n 0, 1) := by decide +kernel
theorem dX12_comesIn_48 : decode cX12_comesIn 48 = .ok (.getfield 13, 3) := by decide +kernel
theorem dX12_comesIn_51 : decode cX12_comesIn 51 = .ok (.bipush 76, 2) := by decide +kernel
theorem dX12_comesIn_53 : decode cX12_comesIn 53 = .ok (.iload_n 1, 1) := by decide +kernel
theorem dX12_comesIn_54 : decode cX12_comesIn 54 = .ok (.iadd, 1) := by decide +kernel
theorem dX12_comesIn_55 : decode cX12_comesIn 55 = .ok (.iaload, 1) := by decide +kernel
theorem dX12_comesIn_56 : decode cX12_comesIn 56 = .ok (.i2l, 1) := by decide +kernel
theorem dX12_comesIn_57 : decode cX12_comesIn 57 = .ok (.iload_n 2, 1) := by decide +kernel
theorem dX12_comesIn_58 : decode cX12_comesIn 58 = .ok (.invokestatic 213, 3) := by decide +kernel
theorem dX12_comesIn_61 : decode cX12_comesIn 61 = .ok (.ifCond .eq 6, 3) := by decide +kernel
theorem dX12_comesIn_64 : decode cX12_comesIn 64 = .ok (.iload 4, 2) := by decide +kernel
theorem dX12_comesIn_66 : decode cX12_comesIn 66 = .ok (.istore_n 3, 1) := by decide +kernel
theorem dX12_comesIn_67 : decode cX12_comesIn 67 = .ok (.aload_n 0, 1) := by decide +kernel
theorem dX12_comesIn_68 : decode cX12_comesIn 68 = .ok (.invokevirtual 287, 3) := by decide +kernel
theorem dX12_comesIn_71 : decode cX12_comesIn 71 = .ok (.pop, 1) := by decide +kernel
theorem dX12_comesIn_72 : decode cX12_comesIn 72 = .ok (.iinc 4 1, 3) := by decide +kernel
theorem dX12_comesIn_75 : decode cX12_comesIn 75 = .ok (.goto (-40), 3) := by decide +kernel
theorem dX12_comesIn_78 : decode cX12_comesIn 78 = .ok (.aload_n 0, 1) := by decide +kernel
theorem dX12_comesIn_79 : decode cX12_comesIn 79 = .ok (.invokevirtual 324, 3) := by decide +kernel
theorem dX12_comesIn_82 : decode cX12_comesIn 82 = .ok (.iload_n 3, 1) := by decide +kernel
theorem dX12_comesIn_83 : decode cX12_comesIn 83 = .ok (.ireturn, 1) := by decide +kernel
theorem dX12_hearsIn_0 : decode cX12_hearsIn 0 = .ok (.aload_n 0, 1) := by decide +kernel
theorem dX12_hearsIn_1 : decode cX12_hearsIn 1 = .ok (.iconst 0, 1) := by decide +kernel
theorem dX12_hearsIn_2 : decode cX12_hearsIn 2 = .ok (.putfield 1, 3) := by decide +kernel
theorem dX12_hearsIn_5 : decode cX12_hearsIn 5 = .ok (.aload_n 0, 1) := by decide +kernel
theorem dX12_hearsIn_6 : decode cX12_hearsIn 6 = .ok (.iload_n 1, 1) := by decide +kernel
theorem dX12_hearsIn_7 : decode cX12_hearsIn 7 = .ok (.i2l, 1) := by decide +kernel
theorem dX12_hearsIn_8 : decode cX12_hearsIn 8 = .ok (.invokevirtual 239, 3) := by decide +kernel
theorem dX12_hearsIn_11 : decode cX12_hearsIn 11 = .ok (.ifCond .eq 12, 3) := by decide +kernel
theorem dX12_hearsIn_14 : decode cX12_hearsIn 14 = .ok (.aload_n 0, 1) := by decide +kernel
theorem dX12_hearsIn_15 : decode cX12_hearsIn 15 = .ok (.iload_n 2, 1) := by decide +kernel
theorem dX12_hearsIn_16 : decode cX12_hearsIn 16 = .ok (.i2l, 1) := by decide +kernel
theorem dX12_hearsIn_17 : decode cX12_hearsIn 17 = .ok (.invokevirtual 224, 3) := by decide +kernel
theorem dX12_hearsIn_20 : decode cX12_hearsIn 20 = .ok (.ifCond .ne 6, 3) := by decide +kernel
theorem dX12_hearsIn_23 : decode cX12_hearsIn 23 = .ok (.bipush (-2), 2) := by decide +kernel
theorem dX12_hearsIn_25 : decode cX12_hearsIn 25 = .ok (.ireturn, 1) := by decide +kernel
theorem dX12_hearsIn_26 : decode cX12_hearsIn 26 = .ok (.aload_n 0, 1) := by decide +kernel
theorem dX12_hearsIn_27 : decode cX12_hearsIn 27 = .ok (.invokevirtual 267, 3) := by decide +kernel
theorem dX12_hearsIn_30 : decode cX12_hearsIn 30 = .ok (.iconst (-1), 1) := by decide +kernel
theorem dX12_hearsIn_31 : decode cX12_hearsIn 31 = .ok (.istore_n 3, 1) := by decide +kernel
theorem dX12_hearsIn_32 : decode cX12_hearsIn 32 = .ok (.iconst 0, 1) := by decide +kernel
theorem dX12_hearsIn_33 : decode cX12_hearsIn 33 = .ok (.istore 4, 2) := by decide +kernel
theorem dX12_hearsIn_35 : decode cX12_hearsIn 35 = .ok (.iload 4, 2) := by decide +kernel
theorem dX12_hearsIn_37 : decode cX12_hearsIn 37 = .ok (.bipush 99, 2) := by decide +kernel
theorem dX12_hearsIn_39 : decode cX12_hearsIn 39 = .ok (.if_icmp .gt 39, 3) := by decide +kernel
theorem dX12_hearsIn_42 : decode cX12_hearsIn 42 = .ok (.iload_n 3, 1) := by decide +kernel
theorem dX12_hearsIn_43 : decode cX12_hearsIn 43 = .ok (.iconst (-1), 1) := by decide +kernel
theorem dX12_hearsIn_44 : decode cX12_hearsIn 44 = .ok (.if_icmp .ne 34, 3) := by decide +kernel
theorem dX12_hearsIn_47 : decode cX12_hearsIn 47 = .ok (.aload_n 0, 1) := by decide +kernel
theorem dX12_hearsIn_48 : decode cX12_hearsIn 48 = .ok (.getfield 13, 3) := by decide +kernel
theorem dX12_hearsIn_51 : decode cX12_hearsIn 51 = .ok (.bipush 92, 2) := by decide +kernel
theorem dX12_hearsIn_53 : decode cX12_hearsIn 53 = .ok (.iload_n 1, 1) := by decide +kernel
theorem dX12_hearsIn_54 : decode cX12_hearsIn 54 = .ok (.iadd, 1) := by decide +kernel
theorem dX12_hearsIn_55 : decode cX12_hearsIn 55 = .ok (.iaload, 1) := by decide +kernel
theorem dX12_hearsIn_56 : decode cX12_hearsIn 56 = .ok (.i2l, 1) := by decide +kernel
theorem dX12_hearsIn_57 : decode cX12_hearsIn 57 = .ok (.iload_n 2, 1) := by decide +kernel
theorem dX12_hearsIn_58 : decode cX12_hearsIn 58 = .ok (.invokestatic 213, 3) := by decide +kernel
theorem dX12_hearsIn_61 : decode cX12_hearsIn 61 = .ok (.ifCond .eq 6, 3) := by decide +kernel
theorem dX12_hearsIn_64 : decode cX12_hearsIn 64 = .ok (.iload 4, 2) := by decide +kernel
theorem dX12_hearsIn_66 : decode cX12_hearsIn 66 = .ok (.istore_n 3, 1) := by decide +kernel
theorem dX12_hearsIn_67 : decode cX12_hearsIn 67 = .ok (.aload_n 0, 1) := by decide +kernel
theorem dX12_hearsIn_68 : decode cX12_hearsIn 68 = .ok (.invokevirtual 287, 3) := by decide +kernel
theorem dX12_hearsIn_71 : decode cX12_hearsIn 71 = .ok (.pop, 1) := by decide +kernel
theorem dX12_hearsIn_72 : decode cX12_hearsIn 72 = .ok (.iinc 4 1, 3) := by decide +kernel
theorem dX12_hearsIn_75 : decode cX12_hearsIn 75 = .ok (.goto (-40), 3) := by decide +kernel
theorem dX12_hearsIn_78 : decode cX12_hearsIn 78 = .ok (.aload_n 0, 1) := by decide +kernel
theorem dX12_hearsIn_79 : decode cX12_hearsIn 79 = .ok (.invokevirtual 324, 3) := by decide +kernel
theorem dX12_hearsIn_82 : decode cX12_hearsIn 82 = .ok (.iload_n 3, 1) := by decide +kernel
theorem dX12_hearsIn_83 : decode cX12_hearsIn 83 = .ok (.ireturn, 1) := by decide +kernel
theorem dX12_goesHours_0 : decode cX12_goesHours 0 = .ok (.iconst 0, 1) := by decide +kernel
theorem dX12_goesHours_1 : decode cX12_goesHours 1 = .ok (.istore_n 2, 1) := by decide +kernel
theorem dX12_goesHours_2 : decode cX12_goesHours 2 = .ok (.iload_n 2, 1) := by decide +kernel
theorem dX12_goesHours_3 : decode cX12_goesHours 3 = .ok (.iload_n 1, 1) := by decide +kernel
theorem dX12_goesHours_4 : decode cX12_goesHours 4 = .ok (.if_icmp .ge 14, 3) := by decide +kernel
theorem dX12_goesHours_7 : decode cX12_goesHours 7 = .ok (.aload_n 0, 1) := by decide +kernel
theorem dX12_goesHours_8 : decode cX12_goesHours 8 = .ok (.invokevirtual 287, 3) := by decide +kernel
theorem dX12_goesHours_11 : decode cX12_goesHours 11 = .ok (.pop, 1) := by decide +kernel
theorem dX12_goesHours_12 : decode cX12_goesHours 12 = .ok (.iinc 2 1, 3) := by decide +kernel
theorem dX12_goesHours_15 : decode cX12_goesHours 15 = .ok (.goto (-13), 3) := by decide +kernel
theorem dX12_goesHours_18 : decode cX12_goesHours 18 = .ok (.return_, 1) := by decide +kernel
theorem dX12_heard_0 : decode cX12_heard 0 = .ok (.aload_n 0, 1) := by decide +kernel
theorem dX12_heard_1 : decode cX12_heard 1 = .ok (.iconst 0, 1) := by decide +kernel
theorem dX12_heard_2 : decode cX12_heard 2 = .ok (.putfield 1, 3) := by decide +kernel
theorem dX12_heard_5 : decode cX12_heard 5 = .ok (.aload_n 0, 1) := by decide +kernel
theorem dX12_heard_6 : decode cX12_heard 6 = .ok (.iload_n 1, 1) := by decide +kernel
theorem dX12_heard_7 : decode cX12_heard 7 = .ok (.i2l, 1) := by decide +kernel
theorem dX12_heard_8 : decode cX12_heard 8 = .ok (.invokevirtual 239, 3) := by decide +kernel
theorem dX12_heard_11 : decode cX12_heard 11 = .ok (.ifCond .ne 6, 3) := by decide +kernel
theorem dX12_heard_14 : decode cX12_heard 14 = .ok (.bipush (-2), 2) := by decide +kernel
theorem dX12_heard_16 : decode cX12_heard 16 = .ok (.ireturn, 1) := by decide +kernel
theorem dX12_heard_17 : decode cX12_heard 17 = .ok (.iload_n 2, 1) := by decide +kernel
theorem dX12_heard_18 : decode cX12_heard 18 = .ok (.i2l, 1) := by decide +kernel
theorem dX12_heard_19 : decode cX12_heard 19 = .ok (.lconst 0, 1) := by decide +kernel
theorem dX12_heard_20 : decode cX12_heard 20 = .ok (.ldc2_w 283, 3) := by decide +kernel
theorem dX12_heard_23 : decode cX12_heard 23 = .ok (.invokestatic 130, 3) := by decide +kernel
theorem dX12_heard_26 : decode cX12_heard 26 = .ok (.ifCond .ne 6, 3) := by decide +kernel
theorem dX12_heard_29 : decode cX12_heard 29 = .ok (.bipush (-3), 2) := by decide +kernel
theorem dX12_heard_31 : decode cX12_heard 31 = .ok (.ireturn, 1) := by decide +kernel
theorem dX12_heard_32 : decode cX12_heard 32 = .ok (.aload_n 0, 1) := by decide +kernel
theorem dX12_heard_33 : decode cX12_heard 33 = .ok (.invokevirtual 267, 3) := by decide +kernel
theorem dX12_heard_36 : decode cX12_heard 36 = .ok (.aload_n 0, 1) := by decide +kernel
theorem dX12_heard_37 : decode cX12_heard 37 = .ok (.iload_n 2, 1) := by decide +kernel
theorem dX12_heard_38 : decode cX12_heard 38 = .ok (.invokevirtual 336, 3) := by decide +kernel
theorem dX12_heard_41 : decode cX12_heard 41 = .ok (.aload_n 0, 1) := by decide +kernel
theorem dX12_heard_42 : decode cX12_heard 42 = .ok (.getfield 13, 3) := by decide +kernel
theorem dX12_heard_45 : decode cX12_heard 45 = .ok (.bipush 92, 2) := by decide +kernel
theorem dX12_heard_47 : decode cX12_heard 47 = .ok (.iload_n 1, 1) := by decide +kernel
theorem dX12_heard_48 : decode cX12_heard 48 = .ok (.iadd, 1) := by decide +kernel
theorem dX12_heard_49 : decode cX12_heard 49 = .ok (.iaload, 1) := by decide +kernel
theorem dX12_heard_50 : decode cX12_heard 50 = .ok (.istore_n 3, 1) := by decide +kernel
theorem dX12_heard_51 : decode cX12_heard 51 = .ok (.aload_n 0, 1) := by decide +kernel
theorem dX12_heard_52 : decode cX12_heard 52 = .ok (.invokevirtual 324, 3) := by decide +kernel
theorem dX12_heard_55 : decode cX12_heard 55 = .ok (.iload_n 3, 1) := by decide +kernel
theorem dX12_heard_56 : decode cX12_heard 56 = .ok (.ireturn, 1) := by decide +kernel
theorem dX12_loudest_0 : decode cX12_loudest 0 = .ok (.aload_n 0, 1) := by decide +kernel
theorem dX12_loudest_1 : decode cX12_loudest 1 = .ok (.iconst 0, 1) := by decide +kernel
theorem dX12_loudest_2 : decode cX12_loudest 2 = .ok (.putfield 1, 3) := by decide +kernel
theorem dX12_loudest_5 : decode cX12_loudest 5 = .ok (.iload_n 1, 1) := by decide +kernel
theorem dX12_loudest_6 : decode cX12_loudest 6 = .ok (.i2l, 1) := by decide +kernel
theorem dX12_loudest_7 : decode cX12_loudest 7 = .ok (.lconst 0, 1) := by decide +kernel
theorem dX12_loudest_8 : decode cX12_loudest 8 = .ok (.ldc2_w 283, 3) := by decide +kernel
theorem dX12_loudest_11 : decode cX12_loudest 11 = .ok (.invokestatic 130, 3) := by decide +kernel
theorem dX12_loudest_14 : decode cX12_loudest 14 = .ok (.ifCond .ne 6, 3) := by decide +kernel
theorem dX12_loudest_17 : decode cX12_loudest 17 = .ok (.bipush (-3), 2) := by decide +kernel
theorem dX12_loudest_19 : decode cX12_loudest 19 = .ok (.ireturn, 1) := by decide +kernel
theorem dX12_loudest_20 : decode cX12_loudest 20 = .ok (.aload_n 0, 1) := by decide +kernel
theorem dX12_loudest_21 : decode cX12_loudest 21 = .ok (.invokevirtual 267, 3) := by decide +kernel
theorem dX12_loudest_24 : decode cX12_loudest 24 = .ok (.aload_n 0, 1) := by decide +kernel
theorem dX12_loudest_25 : decode cX12_loudest 25 = .ok (.iload_n 1, 1) := by decide +kernel
theorem dX12_loudest_26 : decode cX12_loudest 26 = .ok (.invokevirtual 336, 3) := by decide +kernel
theorem dX12_loudest_29 : decode cX12_loudest 29 = .ok (.iconst (-1), 1) := by decide +kernel
theorem dX12_loudest_30 : decode cX12_loudest 30 = .ok (.istore_n 2, 1) := by decide +kernel
theorem dX12_loudest_31 : decode cX12_loudest 31 = .ok (.iconst 0, 1) := by decide +kernel
theorem dX12_loudest_32 : decode cX12_loudest 32 = .ok (.istore_n 3, 1) := by decide +kernel
theorem dX12_loudest_33 : decode cX12_loudest 33 = .ok (.iload_n 3, 1) := by decide +kernel
theorem dX12_loudest_34 : decode cX12_loudest 34 = .ok (.aload_n 0, 1) := by decide +kernel
theorem dX12_loudest_35 : decode cX12_loudest 35 = .ok (.getfield 13, 3) := by decide +kernel
theorem dX12_loudest_38 : decode cX12_loudest 38 = .ok (.bipush 67, 2) := by decide +kernel
theorem dX12_loudest_40 : decode cX12_loudest 40 = .ok (.iaload, 1) := by decide +kernel
theorem dX12_loudest_41 : decode cX12_loudest 41 = .ok (.if_icmp .ge 43, 3) := by decide +kernel
theorem dX12_loudest_44 : decode cX12_loudest 44 = .ok (.iload_n 2, 1) := by decide +kernel
theorem dX12_loudest_45 : decode cX12_loudest 45 = .ok (.iconst (-1), 1) := by decide +kernel
theorem dX12_loudest_46 : decode cX12_loudest 46 = .ok (.if_icmp .eq 30, 3) := by decide +kernel
theorem dX12_loudest_49 : decode cX12_loudest 49 = .ok (.aload_n 0, 1) := by decide +kernel
theorem dX12_loudest_50 : decode cX12_loudest 50 = .ok (.getfield 13, 3) := by decide +kernel
theorem dX12_loudest_53 : decode cX12_loudest 53 = .ok (.bipush 92, 2) := by decide +kernel
theorem dX12_loudest_55 : decode cX12_loudest 55 = .ok (.iload_n 3, 1) := by decide +kernel
theorem dX12_loudest_56 : decode cX12_loudest 56 = .ok (.iadd, 1) := by decide +kernel
theorem dX12_loudest_57 : decode cX12_loudest 57 = .ok (.iaload, 1) := by decide +kernel
theorem dX12_loudest_58 : decode cX12_loudest 58 = .ok (.invokestatic 339, 3) := by decide +kernel
theorem dX12_loudest_61 : decode cX12_loudest 61 = .ok (.aload_n 0, 1) := by decide +kernel
theorem dX12_loudest_62 : decode cX12_loudest 62 = .ok (.getfield 13, 3) := by decide +kernel
theorem dX12_loudest_65 : decode cX12_loudest 65 = .ok (.bipush 92, 2) := by decide +kernel
theorem dX12_loudest_67 : decode cX12_loudest 67 = .ok (.iload_n 2, 1) := by decide +kernel
theorem dX12_loudest_68 : decode cX12_loudest 68 = .ok (.iadd, 1) := by decide +kernel
theorem dX12_loudest_69 : decode cX12_loudest 69 = .ok (.iaload, 1) := by decide +kernel
theorem dX12_loudest_70 : decode cX12_loudest 70 = .ok (.invokestatic 339, 3) := by decide +kernel
theorem dX12_loudest_73 : decode cX12_loudest 73 = .ok (.if_icmp .le 5, 3) := by decide +kernel
theorem dX12_loudest_76 : decode cX12_loudest 76 = .ok (.iload_n 3, 1) := by decide +kernel
theorem dX12_loudest_77 : decode cX12_loudest 77 = .ok (.istore_n 2, 1) := by decide +kernel
theorem dX12_loudest_78 : decode cX12_loudest 78 = .ok (.iinc 3 1, 3) := by decide +kernel
theorem dX12_loudest_81 : decode cX12_loudest 81 = .ok (.goto (-48), 3) := by decide +kernel
theorem dX12_loudest_84 : decode cX12_loudest 84 = .ok (.aload_n 0, 1) := by decide +kernel
theorem dX12_loudest_85 : decode cX12_loudest 85 = .ok (.invokevirtual 324, 3) := by decide +kernel
theorem dX12_loudest_88 : decode cX12_loudest 88 = .ok (.iload_n 2, 1) := by decide +kernel
theorem dX12_loudest_89 : decode cX12_loudest 89 = .ok (.ireturn, 1) := by decide +kernel
theorem dX12_calls_0 : decode cX12_calls 0 = .ok (.aload_n 0, 1) := by decide +kernel
theorem dX12_calls_1 : decode cX12_calls 1 = .ok (.getfield 13, 3) := by decide +kernel
theorem dX12_calls_4 : decode cX12_calls 4 = .ok (.bipush 67, 2) := by decide +kernel
theorem dX12_calls_6 : decode cX12_calls 6 = .ok (.iconst 0, 1) := by decide +kernel
theorem dX12_calls_7 : decode cX12_calls 7 = .ok (.iastore, 1) := by decide +kernel
theorem dX12_calls_8 : decode cX12_calls 8 = .ok (.aload_n 0, 1) := by decide +kernel
theorem dX12_calls_9 : decode cX12_calls 9 = .ok (.iload_n 2, 1) := by decide +kernel
theorem dX12_calls_10 : decode cX12_calls 10 = .ok (.invokevirtual 336, 3) := by decide +kernel
theorem dX12_calls_13 : decode cX12_calls 13 = .ok (.aload_n 0, 1) := by decide +kernel
theorem dX12_calls_14 : decode cX12_calls 14 = .ok (.iload_n 1, 1) := by decide +kernel
theorem dX12_calls_15 : decode cX12_calls 15 = .ok (.invokevirtual 277, 3) := by decide +kernel
theorem dX12_calls_18 : decode cX12_calls 18 = .ok (.pop, 1) := by decide +kernel
theorem dX12_calls_19 : decode cX12_calls 19 = .ok (.aload_n 0, 1) := by decide +kernel
theorem dX12_calls_20 : decode cX12_calls 20 = .ok (.iload_n 3, 1) := by decide +kernel
theorem dX12_calls_21 : decode cX12_calls 21 = .ok (.invokevirtual 336, 3) := by decide +kernel
theorem dX12_calls_24 : decode cX12_calls 24 = .ok (.return_, 1) := by decide +kernel
theorem dX12_hearersOf_0 : decode cX12_hearersOf 0 = .ok (.aload_n 0, 1) := by decide +kernel
theorem dX12_hearersOf_1 : decode cX12_hearersOf 1 = .ok (.invokevirtual 267, 3) := by decide +kernel
theorem dX12_hearersOf_4 : decode cX12_hearersOf 4 = .ok (.aload_n 0, 1) := by decide +kernel
theorem dX12_hearersOf_5 : decode cX12_hearersOf 5 = .ok (.iload_n 1, 1) := by decide +kernel
theorem dX12_hearersOf_6 : decode cX12_hearersOf 6 = .ok (.iload_n 2, 1) := by decide +kernel
theorem dX12_hearersOf_7 : decode cX12_hearersOf 7 = .ok (.iload_n 3, 1) := by decide +kernel
theorem dX12_hearersOf_8 : decode cX12_hearersOf 8 = .ok (.invokevirtual 342, 3) := by decide +kernel
theorem dX12_hearersOf_11 : decode cX12_hearersOf 11 = .ok (.aload_n 0, 1) := by decide +kernel
theorem dX12_hearersOf_12 : decode cX12_hearersOf 12 = .ok (.getfield 13, 3) := by decide +kernel
theorem dX12_hearersOf_15 : decode cX12_hearersOf 15 = .ok (.bipush 92, 2) := by decide +kernel
theorem dX12_hearersOf_17 : decode cX12_hearersOf 17 = .ok (.iaload, 1) := by decide +kernel
theorem dX12_hearersOf_18 : decode cX12_hearersOf 18 = .ok (.istore 4, 2) := by decide +kernel
theorem dX12_hearersOf_20 : decode cX12_hearersOf 20 = .ok (.aload_n 0, 1) := by decide +kernel
theorem dX12_hearersOf_21 : decode cX12_hearersOf 21 = .ok (.invokevirtual 324, 3) := by decide +kernel
theorem dX12_hearersOf_24 : decode cX12_hearersOf 24 = .ok (.iload 4, 2) := by decide +kernel
theorem dX12_hearersOf_26 : decode cX12_hearersOf 26 = .ok (.ireturn, 1) := by decide +kernel
theorem dX12_isSoon_0 : decode cX12_isSoon 0 = .ok (.iload_n 0, 1) := by decide +kernel
theorem dX12_isSoon_1 : decode cX12_isSoon 1 = .ok (.i2l, 1) := by decide +kernel
theorem dX12_isSoon_2 : decode cX12_isSoon 2 = .ok (.lconst 0, 1) := by decide +kernel
theorem dX12_isSoon_3 : decode cX12_isSoon 3 = .ok (.ldc2_w 285, 3) := by decide +kernel
theorem dX12_isSoon_6 : decode cX12_isSoon 6 = .ok (.invokestatic 130, 3) := by decide +kernel
theorem dX12_isSoon_9 : decode cX12_isSoon 9 = .ok (.ireturn, 1) := by decide +kernel
theorem dX12_hearers_0 : decode cX12_hearers 0 = .ok (.aload_n 0, 1) := by decide +kernel
theorem dX12_hearers_1 : decode cX12_hearers 1 = .ok (.iconst 0, 1) := by decide +kernel
theorem dX12_hearers_2 : decode cX12_hearers 2 = .ok (.putfield 1, 3) := by decide +kernel
theorem dX12_hearers_5 : decode cX12_hearers 5 = .ok (.aload_n 0, 1) := by decide +kernel
theorem dX12_hearers_6 : decode cX12_hearers 6 = .ok (.iload_n 1, 1) := by decide +kernel
theorem dX12_hearers_7 : decode cX12_hearers 7 = .ok (.i2l, 1) := by decide +kernel
theorem dX12_hearers_8 : decode cX12_hearers 8 = .ok (.invokevirtual 244, 3) := by decide +kernel
theorem dX12_hearers_11 : decode cX12_hearers 11 = .ok (.ifCond .ne 6, 3) := by decide +kernel
theorem dX12_hearers_14 : decode cX12_hearers 14 = .ok (.bipush (-2), 2) := by decide +kernel
theorem dX12_hearers_16 : decode cX12_hearers 16 = .ok (.ireturn, 1) := by decide +kernel
theorem dX12_hearers_17 : decode cX12_hearers 17 = .ok (.iload_n 2, 1) := by decide +kernel
theorem dX12_hearers_18 : decode cX12_hearers 18 = .ok (.i2l, 1) := by decide +kernel
theorem dX12_hearers_19 : decode cX12_hearers 19 = .ok (.lconst 0, 1) := by decide +kernel
theorem dX12_hearers_20 : decode cX12_hearers 20 = .ok (.ldc2_w 346, 3) := by decide +kernel
theorem dX12_hearers_23 : decode cX12_hearers 23 = .ok (.invokestatic 130, 3) := by decide +kernel
theorem dX12_hearers_26 : decode cX12_hearers 26 = .ok (.ifCond .eq 20, 3) := by decide +kernel
theorem dX12_hearers_29 : decode cX12_hearers 29 = .ok (.iload_n 3, 1) := by decide +kernel
theorem dX12_hearers_30 : decode cX12_hearers 30 = .ok (.invokestatic 348, 3) := by decide +kernel
theorem dX12_hearers_33 : decode cX12_hearers 33 = .ok (.ifCond .eq 13, 3) := by decide +kernel
theorem dX12_hearers_36 : decode cX12_hearers 36 = .ok (.aload_n 0, 1) := by decide +kernel
theorem dX12_hearers_37 : decode cX12_hearers 37 = .ok (.iload_n 1, 1) := by decide +kernel
theorem dX12_hearers_38 : decode cX12_hearers 38 = .ok (.iload_n 2, 1) := by decide +kernel
theorem dX12_hearers_39 : decode cX12_hearers 39 = .ok (.iload_n 3, 1) := by decide +kernel
theorem dX12_hearers_40 : decode cX12_hearers 40 = .ok (.invokevirtual 351, 3) := by decide +kernel
theorem dX12_hearers_43 : decode cX12_hearers 43 = .ok (.goto 5, 3) := by decide +kernel
theorem dX12_hearers_46 : decode cX12_hearers 46 = .ok (.bipush (-3), 2) := by decide +kernel
theorem dX12_hearers_48 : decode cX12_hearers 48 = .ok (.ireturn, 1) := by decide +kernel
theorem dX12_far_0 : decode cX12_far 0 = .ok (.aload_n 0, 1) := by decide +kernel
theorem dX12_far_1 : decode cX12_far 1 = .ok (.iconst 0, 1) := by decide +kernel
theorem dX12_far_2 : decode cX12_far 2 = .ok (.putfield 1, 3) := by decide +kernel
theorem dX12_far_5 : decode cX12_far 5 = .ok (.aload_n 0, 1) := by decide +kernel
theorem dX12_far_6 : decode cX12_far 6 = .ok (.iload_n 1, 1) := by decide +kernel
theorem dX12_far_7 : decode cX12_far 7 = .ok (.i2l, 1) := by decide +kernel
theorem dX12_far_8 : decode cX12_far 8 = .ok (.invokevirtual 244, 3) := by decide +kernel
theorem dX12_far_11 : decode cX12_far 11 = .ok (.ifCond .eq 12, 3) := by decide +kernel
theorem dX12_far_14 : decode cX12_far 14 = .ok (.aload_n 0, 1) := by decide +kernel
theorem dX12_far_15 : decode cX12_far 15 = .ok (.iload_n 2, 1) := by decide +kernel
theorem dX12_far_16 : decode cX12_far 16 = .ok (.i2l, 1) := by decide +kernel
theorem dX12_far_17 : decode cX12_far 17 = .ok (.invokevirtual 244, 3) := by decide +kernel
theorem dX12_far_20 : decode cX12_far 20 = .ok (.ifCond .ne 6, 3) := by decide +kernel
theorem dX12_far_23 : decode cX12_far 23 = .ok (.bipush (-2), 2) := by decide +kernel
theorem dX12_far_25 : decode cX12_far 25 = .ok (.ireturn, 1) := by decide +kernel
theorem dX12_far_26 : decode cX12_far 26 = .ok (.aload_n 0, 1) := by decide +kernel
theorem dX12_far_27 : decode cX12_far 27 = .ok (.invokevirtual 267, 3) := by decide +kernel
theorem dX12_far_30 : decode cX12_far 30 = .ok (.aload_n 0, 1) := by decide +kernel
theorem dX12_far_31 : decode cX12_far 31 = .ok (.iload_n 1, 1) := by decide +kernel
theorem dX12_far_32 : decode cX12_far 32 = .ok (.iconst 0, 1) := by decide +kernel
theorem dX12_far_33 : decode cX12_far 33 = .ok (.iconst 0, 1) := by decide +kernel
theorem dX12_far_34 : decode cX12_far 34 = .ok (.invokevirtual 342, 3) := by decide +kernel
theorem dX12_far_37 : decode cX12_far 37 = .ok (.iconst (-1), 1) := by decide +kernel
theorem dX12_far_38 : decode cX12_far 38 = .ok (.istore_n 3, 1) := by decide +kernel
theorem dX12_far_39 : decode cX12_far 39 = .ok (.iconst 0, 1) := by decide +kernel
theorem dX12_far_40 : decode cX12_far 40 = .ok (.istore 4, 2) := by decide +kernel
theorem dX12_far_42 : decode cX12_far 42 = .ok (.iload 4, 2) := by decide +kernel
theorem dX12_far_44 : decode cX12_far 44 = .ok (.bipush 48, 2) := by decide +kernel
theorem dX12_far_46 : decode cX12_far 46 = .ok (.if_icmp .gt 37, 3) := by decide +kernel
theorem dX12_far_49 : decode cX12_far 49 = .ok (.iload_n 3, 1) := by decide +kernel
theorem dX12_far_50 : decode cX12_far 50 = .ok (.iconst (-1), 1) := by decide +kernel
theorem dX12_far_51 : decode cX12_far 51 = .ok (.if_icmp .ne 32, 3) := by decide +kernel
theorem dX12_far_54 : decode cX12_far 54 = .ok (.aload_n 0, 1) := by decide +kernel
theorem dX12_far_55 : decode cX12_far 55 = .ok (.getfield 13, 3) := by decide +kernel
theorem dX12_far_58 : decode cX12_far 58 = .ok (.bipush 76, 2) := by decide +kernel
theorem dX12_far_60 : decode cX12_far 60 = .ok (.iaload, 1) := by decide +kernel
theorem dX12_far_61 : decode cX12_far 61 = .ok (.i2l, 1) := by decide +kernel
theorem dX12_far_62 : decode cX12_far 62 = .ok (.iload_n 2, 1) := by decide +kernel
theorem dX12_far_63 : decode cX12_far 63 = .ok (.invokestatic 213, 3) := by decide +kernel
theorem dX12_far_66 : decode cX12_far 66 = .ok (.ifCond .eq 6, 3) := by decide +kernel
theorem dX12_far_69 : decode cX12_far 69 = .ok (.iload 4, 2) := by decide +kernel
theorem dX12_far_71 : decode cX12_far 71 = .ok (.istore_n 3, 1) := by decide +kernel
theorem dX12_far_72 : decode cX12_far 72 = .ok (.aload_n 0, 1) := by decide +kernel
theorem dX12_far_73 : decode cX12_far 73 = .ok (.invokevirtual 287, 3) := by decide +kernel
theorem dX12_far_76 : decode cX12_far 76 = .ok (.pop, 1) := by decide +kernel
theorem dX12_far_77 : decode cX12_far 77 = .ok (.iinc 4 1, 3) := by decide +kernel
theorem dX12_far_80 : decode cX12_far 80 = .ok (.goto (-38), 3) := by decide +kernel
theorem dX12_far_83 : decode cX12_far 83 = .ok (.aload_n 0, 1) := by decide +kernel
theorem dX12_far_84 : decode cX12_far 84 = .ok (.invokevirtual 324, 3) := by decide +kernel
theorem dX12_far_87 : decode cX12_far 87 = .ok (.iload_n 3, 1) := by decide +kernel
theorem dX12_far_88 : decode cX12_far 88 = .ok (.ireturn, 1) := by decide +kernel
theorem dX12_reaches_0 : decode cX12_reaches 0 = .ok (.aload_n 0, 1) := by decide +kernel
theorem dX12_reaches_1 : decode cX12_reaches 1 = .ok (.iconst 0, 1) := by decide +kernel
theorem dX12_reaches_2 : decode cX12_reaches 2 = .ok (.putfield 1, 3) := by decide +kernel
theorem dX12_reaches_5 : decode cX12_reaches 5 = .ok (.aload_n 0, 1) := by decide +kernel
theorem dX12_reaches_6 : decode cX12_reaches 6 = .ok (.iload_n 1, 1) := by decide +kernel
theorem dX12_reaches_7 : decode cX12_reaches 7 = .ok (.i2l, 1) := by decide +kernel
theorem dX12_reaches_8 : decode cX12_reaches 8 = .ok (.invokevirtual 244, 3) := by decide +kernel
theorem dX12_reaches_11 : decode cX12_reaches 11 = .ok (.ifCond .eq 12, 3) := by decide +kernel
theorem dX12_reaches_14 : decode cX12_reaches 14 = .ok (.aload_n 0, 1) := by decide +kernel
theorem dX12_reaches_15 : decode cX12_reaches 15 = .ok (.iload_n 2, 1) := by decide +kernel
theorem dX12_reaches_16 : decode cX12_reaches 16 = .ok (.i2l, 1) := by decide +kernel
theorem dX12_reaches_17 : decode cX12_reaches 17 = .ok (.invokevirtual 224, 3) := by decide +kernel
theorem dX12_reaches_20 : decode cX12_reaches 20 = .ok (.ifCond .ne 6, 3) := by decide +kernel
theorem dX12_reaches_23 : decode cX12_reaches 23 = .ok (.bipush (-2), 2) := by decide +kernel
theorem dX12_reaches_25 : decode cX12_reaches 25 = .ok (.ireturn, 1) := by decide +kernel
theorem dX12_reaches_26 : decode cX12_reaches 26 = .ok (.aload_n 0, 1) := by decide +kernel
theorem dX12_reaches_27 : decode cX12_reaches 27 = .ok (.invokevirtual 267, 3) := by decide +kernel
theorem dX12_reaches_30 : decode cX12_reaches 30 = .ok (.aload_n 0, 1) := by decide +kernel
theorem dX12_reaches_31 : decode cX12_reaches 31 = .ok (.iload_n 1, 1) := by decide +kernel
theorem dX12_reaches_32 : decode cX12_reaches 32 = .ok (.iconst 0, 1) := by decide +kernel
theorem dX12_reaches_33 : decode cX12_reaches 33 = .ok (.iconst 0, 1) := by decide +kernel
theorem dX12_reaches_34 : decode cX12_reaches 34 = .ok (.invokevirtual 342, 3) := by decide +kernel
theorem dX12_reaches_37 : decode cX12_reaches 37 = .ok (.iconst (-1), 1) := by decide +kernel
theorem dX12_reaches_38 : decode cX12_reaches 38 = .ok (.istore_n 3, 1) := by decide +kernel
theorem dX12_reaches_39 : decode cX12_reaches 39 = .ok (.iconst 1, 1) := by decide +kernel
theorem dX12_reaches_40 : decode cX12_reaches 40 = .ok (.istore 4, 2) := by decide +kernel
theorem dX12_reaches_42 : decode cX12_reaches 42 = .ok (.iload 4, 2) := by decide +kernel
theorem dX12_reaches_44 : decode cX12_reaches 44 = .ok (.bipush 48, 2) := by decide +kernel
theorem dX12_reaches_46 : decode cX12_reaches 46 = .ok (.if_icmp .gt 37, 3) := by decide +kernel
theorem dX12_reaches_49 : decode cX12_reaches 49 = .ok (.iload_n 3, 1) := by decide +kernel
theorem dX12_reaches_50 : decode cX12_reaches 50 = .ok (.iconst (-1), 1) := by decide +kernel
theorem dX12_reaches_51 : decode cX12_reaches 51 = .ok (.if_icmp .ne 32, 3) := by decide +kernel
theorem dX12_reaches_54 : decode cX12_reaches 54 = .ok (.aload_n 0, 1) := by decide +kernel
theorem dX12_reaches_55 : decode cX12_reaches 55 = .ok (.invokevirtual 287, 3) := by decide +kernel
theorem dX12_reaches_58 : decode cX12_reaches 58 = .ok (.pop, 1) := by decide +kernel
theorem dX12_reaches_59 : decode cX12_reaches 59 = .ok (.aload_n 0, 1) := by decide +kernel
theorem dX12_reaches_60 : decode cX12_reaches 60 = .ok (.getfield 13, 3) := by decide +kernel
theorem dX12_reaches_63 : decode cX12_reaches 63 = .ok (.bipush 92, 2) := by decide +kernel
theorem dX12_reaches_65 : decode cX12_reaches 65 = .ok (.iaload, 1) := by decide +kernel
theorem dX12_reaches_66 : decode cX12_reaches 66 = .ok (.i2l, 1) := by decide +kernel
theorem dX12_reaches_67 : decode cX12_reaches 67 = .ok (.iload_n 2, 1) := by decide +kernel
theorem dX12_reaches_68 : decode cX12_reaches 68 = .ok (.invokestatic 213, 3) := by decide +kernel
theorem dX12_reaches_71 : decode cX12_reaches 71 = .ok (.ifCond .eq 6, 3) := by decide +kernel
theorem dX12_reaches_74 : decode cX12_reaches 74 = .ok (.iload 4, 2) := by decide +kernel
theorem dX12_reaches_76 : decode cX12_reaches 76 = .ok (.istore_n 3, 1) := by decide +kernel
theorem dX12_reaches_77 : decode cX12_reaches 77 = .ok (.iinc 4 1, 3) := by decide +kernel
theorem dX12_reaches_80 : decode cX12_reaches 80 = .ok (.goto (-38), 3) := by decide +kernel
theorem dX12_reaches_83 : decode cX12_reaches 83 = .ok (.aload_n 0, 1) := by decide +kernel
theorem dX12_reaches_84 : decode cX12_reaches 84 = .ok (.invokevirtual 324, 3) := by decide +kernel
theorem dX12_reaches_87 : decode cX12_reaches 87 = .ok (.iload_n 3, 1) := by decide +kernel
theorem dX12_reaches_88 : decode cX12_reaches 88 = .ok (.ireturn, 1) := by decide +kernel
theorem dX12_secret_0 : decode cX12_secret 0 = .ok (.aload_n 0, 1) := by decide +kernel
theorem dX12_secret_1 : decode cX12_secret 1 = .ok (.iconst 0, 1) := by decide +kernel
theorem dX12_secret_2 : decode cX12_secret 2 = .ok (.putfield 1, 3) := by decide +kernel
theorem dX12_secret_5 : decode cX12_secret 5 = .ok (.iload_n 3, 1) := by decide +kernel
theorem dX12_secret_6 : decode cX12_secret 6 = .ok (.i2l, 1) := by decide +kernel
theorem dX12_secret_7 : decode cX12_secret 7 = .ok (.lconst 0, 1) := by decide +kernel
theorem dX12_secret_8 : decode cX12_secret 8 = .ok (.lconst 1, 1) := by decide +kernel
theorem dX12_secret_9 : decode cX12_secret 9 = .ok (.invokestatic 130, 3) := by decide +kernel
theorem dX12_secret_12 : decode cX12_secret 12 = .ok (.ifCond .ne 6, 3) := by decide +kernel
theorem dX12_secret_15 : decode cX12_secret 15 = .ok (.bipush (-2), 2) := by decide +kernel
theorem dX12_secret_17 : decode cX12_secret 17 = .ok (.ireturn, 1) := by decide +kernel
theorem dX12_secret_18 : decode cX12_secret 18 = .ok (.iload_n 1, 1) := by decide +kernel
theorem dX12_secret_19 : decode cX12_secret 19 = .ok (.iconst 1, 1) := by decide +kernel
theorem dX12_secret_20 : decode cX12_secret 20 = .ok (.aload_n 0, 1) := by decide +kernel
theorem dX12_secret_21 : decode cX12_secret 21 = .ok (.getfield 13, 3) := by decide +kernel
theorem dX12_secret_24 : decode cX12_secret 24 = .ok (.iconst 3, 1) := by decide +kernel
theorem dX12_secret_25 : decode cX12_secret 25 = .ok (.iaload, 1) := by decide +kernel
theorem dX12_secret_26 : decode cX12_secret 26 = .ok (.ishl, 1) := by decide +kernel
theorem dX12_secret_27 : decode cX12_secret 27 = .ok (.iconst 1, 1) := by decide +kernel
theorem dX12_secret_28 : decode cX12_secret 28 = .ok (.isub, 1) := by decide +kernel
theorem dX12_secret_29 : decode cX12_secret 29 = .ok (.iconst (-1), 1) := by decide +kernel
theorem dX12_secret_30 : decode cX12_secret 30 = .ok (.ixor, 1) := by decide +kernel
theorem dX12_secret_31 : decode cX12_secret 31 = .ok (.iand, 1) := by decide +kernel
theorem dX12_secret_32 : decode cX12_secret 32 = .ok (.ifCond .ne 10, 3) := by decide +kernel
theorem dX12_secret_35 : decode cX12_secret 35 = .ok (.iload_n 2, 1) := by decide +kernel
theorem dX12_secret_36 : decode cX12_secret 36 = .ok (.invokestatic 348, 3) := by decide +kernel
theorem dX12_secret_39 : decode cX12_secret 39 = .ok (.ifCond .ne 6, 3) := by decide +kernel
theorem dX12_secret_42 : decode cX12_secret 42 = .ok (.bipush (-3), 2) := by decide +kernel
theorem dX12_secret_44 : decode cX12_secret 44 = .ok (.ireturn, 1) := by decide +kernel
theorem dX12_secret_45 : decode cX12_secret 45 = .ok (.iconst 0, 1) := by decide +kernel
theorem dX12_secret_46 : decode cX12_secret 46 = .ok (.istore 4, 2) := by decide +kernel
theorem dX12_secret_48 : decode cX12_secret 48 = .ok (.iload 4, 2) := by decide +kernel
theorem dX12_secret_50 : decode cX12_secret 50 = .ok (.bipush 24, 2) := by decide +kernel
theorem dX12_secret_52 : decode cX12_secret 52 = .ok (.if_icmp .ge 54, 3) := by decide +kernel
theorem dX12_secret_55 : decode cX12_secret 55 = .ok (.iconst 0, 1) := by decide +kernel
theorem dX12_secret_56 : decode cX12_secret 56 = .ok (.istore 5, 2) := by decide +kernel
theorem dX12_secret_58 : decode cX12_secret 58 = .ok (.iload 5, 2) := by decide +kernel
theorem dX12_secret_60 : decode cX12_secret 60 = .ok (.aload_n 0, 1) := by decide +kernel
theorem dX12_secret_61 : decode cX12_secret 61 = .ok (.getfield 13, 3) := by decide +kernel
theorem dX12_secret_64 : decode cX12_secret 64 = .ok (.iconst 1, 1) := by decide +kernel
theorem dX12_secret_65 : decode cX12_secret 65 = .ok (.iaload, 1) := by decide +kernel
theorem dX12_secret_66 : decode cX12_secret 66 = .ok (.if_icmp .ge 34, 3) := by decide +kernel
theorem dX12_secret_69 : decode cX12_secret 69 = .ok (.aload_n 0, 1) := by decide +kernel
theorem dX12_secret_70 : decode cX12_secret 70 = .ok (.iload 5, 2) := by decide +kernel
theorem dX12_secret_72 : decode cX12_secret 72 = .ok (.iload 4, 2) := by decide +kernel
theorem dX12_secret_74 : decode cX12_secret 74 = .ok (.iload_n 2, 1) := by decide +kernel
theorem dX12_secret_75 : decode cX12_secret 75 = .ok (.invokevirtual 351, 3) := by decide +kernel
theorem dX12_secret_78 : decode cX12_secret 78 = .ok (.iload_n 1, 1) := by decide +kernel
theorem dX12_secret_79 : decode cX12_secret 79 = .ok (.if_icmp .ne 15, 3) := by decide +kernel
theorem dX12_secret_82 : decode cX12_secret 82 = .ok (.iload_n 3, 1) := by decide +kernel
theorem dX12_secret_83 : decode cX12_secret 83 = .ok (.ifCond .ne 8, 3) := by decide +kernel
theorem dX12_secret_86 : decode cX12_secret 86 = .ok (.iload 4, 2) := by decide +kernel
theorem dX12_secret_88 : decode cX12_secret 88 = .ok (.goto 5, 3) := by decide +kernel
theorem dX12_secret_91 : decode cX12_secret 91 = .ok (.iload 5, 2) := by decide +kernel
theorem dX12_secret_93 : decode cX12_secret 93 = .ok (.ireturn, 1) := by decide +kernel
theorem dX12_secret_94 : decode cX12_secret 94 = .ok (.iinc 5 1, 3) := by decide +kernel
theorem dX12_secret_97 : decode cX12_secret 97 = .ok (.goto (-39), 3) := by decide +kernel
theorem dX12_secret_100 : decode cX12_secret 100 = .ok (.iinc 4 1, 3) := by decide +kernel
theorem dX12_secret_103 : decode cX12_secret 103 = .ok (.goto (-55), 3) := by decide +kernel
theorem dX12_secret_106 : decode cX12_secret 106 = .ok (.iconst (-1), 1) := by decide +kernel
theorem dX12_secret_107 : decode cX12_secret 107 = .ok (.ireturn, 1) := by decide +kernel
theorem dX12_widest_0 : decode cX12_widest 0 = .ok (.aload_n 0, 1) := by decide +kernel
theorem dX12_widest_1 : decode cX12_widest 1 = .ok (.iconst 0, 1) := by decide +kernel
theorem dX12_widest_2 : decode cX12_widest 2 = .ok (.putfield 1, 3) := by decide +kernel
theorem dX12_widest_5 : decode cX12_widest 5 = .ok (.iload_n 1, 1) := by decide +kernel
theorem dX12_widest_6 : decode cX12_widest 6 = .ok (.invokestatic 348, 3) := by decide +kernel
theorem dX12_widest_9 : decode cX12_widest 9 = .ok (.ifCond .ne 6, 3) := by decide +kernel
theorem dX12_widest_12 : decode cX12_widest 12 = .ok (.bipush (-3), 2) := by decide +kernel
theorem dX12_widest_14 : decode cX12_widest 14 = .ok (.ireturn, 1) := by decide +kernel
theorem dX12_widest_15 : decode cX12_widest 15 = .ok (.iconst 0, 1) := by decide +kernel
theorem dX12_widest_16 : decode cX12_widest 16 = .ok (.istore_n 2, 1) := by decide +kernel
theorem dX12_widest_17 : decode cX12_widest 17 = .ok (.iconst 1, 1) := by decide +kernel
theorem dX12_widest_18 : decode cX12_widest 18 = .ok (.istore_n 3, 1) := by decide +kernel
theorem dX12_widest_19 : decode cX12_widest 19 = .ok (.iload_n 3, 1) := by decide +kernel
theorem dX12_widest_20 : decode cX12_widest 20 = .ok (.aload_n 0, 1) := by decide +kernel
theorem dX12_widest_21 : decode cX12_widest 21 = .ok (.getfield 13, 3) := by decide +kernel
theorem dX12_widest_24 : decode cX12_widest 24 = .ok (.iconst 1, 1) := by decide +kernel
theorem dX12_widest_25 : decode cX12_widest 25 = .ok (.iaload, 1) := by decide +kernel
theorem dX12_widest_26 : decode cX12_widest 26 = .ok (.if_icmp .ge 34, 3) := by decide +kernel
theorem dX12_widest_29 : decode cX12_widest 29 = .ok (.aload_n 0, 1) := by decide +kernel
theorem dX12_widest_30 : decode cX12_widest 30 = .ok (.iload_n 3, 1) := by decide +kernel
theorem dX12_widest_31 : decode cX12_widest 31 = .ok (.iconst 0, 1) := by decide +kernel
theorem dX12_widest_32 : decode cX12_widest 32 = .ok (.iload_n 1, 1) := by decide +kernel
theorem dX12_widest_33 : decode cX12_widest 33 = .ok (.invokevirtual 351, 3) := by decide +kernel
theorem dX12_widest_36 : decode cX12_widest 36 = .ok (.invokestatic 339, 3) := by decide +kernel
theorem dX12_widest_39 : decode cX12_widest 39 = .ok (.aload_n 0, 1) := by decide +kernel
theorem dX12_widest_40 : decode cX12_widest 40 = .ok (.iload_n 2, 1) := by decide +kernel
theorem dX12_widest_41 : decode cX12_widest 41 = .ok (.iconst 0, 1) := by decide +kernel
theorem dX12_widest_42 : decode cX12_widest 42 = .ok (.iload_n 1, 1) := by decide +kernel
theorem dX12_widest_43 : decode cX12_widest 43 = .ok (.invokevirtual 351, 3) := by decide +kernel
theorem dX12_widest_46 : decode cX12_widest 46 = .ok (.invokestatic 339, 3) := by decide +kernel
theorem dX12_widest_49 : decode cX12_widest 49 = .ok (.if_icmp .le 5, 3) := by decide +kernel
theorem dX12_widest_52 : decode cX12_widest 52 = .ok (.iload_n 3, 1) := by decide +kernel
theorem dX12_widest_53 : decode cX12_widest 53 = .ok (.istore_n 2, 1) := by decide +kernel
theorem dX12_widest_54 : decode cX12_widest 54 = .ok (.iinc 3 1, 3) := by decide +kernel
theorem dX12_widest_57 : decode cX12_widest 57 = .ok (.goto (-38), 3) := by decide +kernel
theorem dX12_widest_60 : decode cX12_widest 60 = .ok (.iload_n 2, 1) := by decide +kernel
theorem dX12_widest_61 : decode cX12_widest 61 = .ok (.ireturn, 1) := by decide +kernel
theorem dX12_isHearer_0 : decode cX12_isHearer 0 = .ok (.aload_n 0, 1) := by decide +kernel
theorem dX12_isHearer_1 : decode cX12_isHearer 1 = .ok (.iload_n 1, 1) := by decide +kernel
theorem dX12_isHearer_2 : decode cX12_isHearer 2 = .ok (.iconst 0, 1) := by decide +kernel
theorem dX12_isHearer_3 : decode cX12_isHearer 3 = .ok (.iload_n 3, 1) := by decide +kernel
theorem dX12_isHearer_4 : decode cX12_isHearer 4 = .ok (.invokevirtual 351, 3) := by decide +kernel
theorem dX12_isHearer_7 : decode cX12_isHearer 7 = .ok (.i2l, 1) := by decide +kernel
theorem dX12_isHearer_8 : decode cX12_isHearer 8 = .ok (.iload_n 2, 1) := by decide +kernel
theorem dX12_isHearer_9 : decode cX12_isHearer 9 = .ok (.invokestatic 213, 3) := by decide +kernel
theorem dX12_isHearer_12 : decode cX12_isHearer 12 = .ok (.ireturn, 1) := by decide +kernel
theorem dX12_fewestFor_0 : decode cX12_fewestFor 0 = .ok (.iconst (-1), 1) := by decide +kernel
theorem dX12_fewestFor_1 : decode cX12_fewestFor 1 = .ok (.istore 5, 2) := by decide +kernel
theorem dX12_fewestFor_3 : decode cX12_fewestFor 3 = .ok (.iconst 0, 1) := by decide +kernel
theorem dX12_fewestFor_4 : decode cX12_fewestFor 4 = .ok (.istore 6, 2) := by decide +kernel
theorem dX12_fewestFor_6 : decode cX12_fewestFor 6 = .ok (.iload 6, 2) := by decide +kernel
theorem dX12_fewestFor_8 : decode cX12_fewestFor 8 = .ok (.iconst 1, 1) := by decide +kernel
theorem dX12_fewestFor_9 : decode cX12_fewestFor 9 = .ok (.iload 4, 2) := by decide +kernel
theorem dX12_fewestFor_11 : decode cX12_fewestFor 11 = .ok (.ifCond .eq 12, 3) := by decide +kernel
theorem dX12_fewestFor_14 : decode cX12_fewestFor 14 = .ok (.aload_n 0, 1) := by decide +kernel
theorem dX12_fewestFor_15 : decode cX12_fewestFor 15 = .ok (.getfield 13, 3) := by decide +kernel
theorem dX12_fewestFor_18 : decode cX12_fewestFor 18 = .ok (.iconst 4, 1) := by decide +kernel
theorem dX12_fewestFor_19 : decode cX12_fewestFor 19 = .ok (.iaload, 1) := by decide +kernel
theorem dX12_fewestFor_20 : decode cX12_fewestFor 20 = .ok (.goto 9, 3) := by decide +kernel
theorem dX12_fewestFor_23 : decode cX12_fewestFor 23 = .ok (.aload_n 0, 1) := by decide +kernel
theorem dX12_fewestFor_24 : decode cX12_fewestFor 24 = .ok (.getfield 13, 3) := by decide +kernel
theorem dX12_fewestFor_27 : decode cX12_fewestFor 27 = .ok (.iconst 2, 1) := by decide +kernel
theorem dX12_fewestFor_28 : decode cX12_fewestFor 28 = .ok (.iaload, 1) := by decide +kernel
theorem dX12_fewestFor_29 : decode cX12_fewestFor 29 = .ok (.ishl, 1) := by decide +kernel
theorem dX12_fewestFor_30 : decode cX12_fewestFor 30 = .ok (.if_icmp .ge 52, 3) := by decide +kernel
theorem dX12_fewestFor_33 : decode cX12_fewestFor 33 = .ok (.iload 5, 2) := by decide +kernel
theorem dX12_fewestFor_35 : decode cX12_fewestFor 35 = .ok (.iconst (-1), 1) := by decide +kernel
theorem dX12_fewestFor_36 : decode cX12_fewestFor 36 = .ok (.if_icmp .eq 19, 3) := by decide +kernel
theorem dX12_fewestFor_39 : decode cX12_fewestFor 39 = .ok (.iload 6, 2) := by decide +kernel
theorem dX12_fewestFor_41 : decode cX12_fewestFor 41 = .ok (.invokestatic 339, 3) := by decide +kernel
theorem dX12_fewestFor_44 : decode cX12_fewestFor 44 = .ok (.iload 5, 2) := by decide +kernel
theorem dX12_fewestFor_46 : decode cX12_fewestFor 46 = .ok (.invokestatic 339, 3) := by decide +kernel
theorem dX12_fewestFor_49 : decode cX12_fewestFor 49 = .ok (.if_icmp .lt 6, 3) := by decide +kernel
theorem dX12_fewestFor_52 : decode cX12_fewestFor 52 = .ok (.goto 24, 3) := by decide +kernel
theorem dX12_fewestFor_55 : decode cX12_fewestFor 55 = .ok (.aload_n 0, 1) := by decide +kernel
theorem dX12_fewestFor_56 : decode cX12_fewestFor 56 = .ok (.iload_n 1, 1) := by decide +kernel
theorem dX12_fewestFor_57 : decode cX12_fewestFor 57 = .ok (.iload_n 2, 1) := by decide +kernel
theorem dX12_fewestFor_58 : decode cX12_fewestFor 58 = .ok (.iload_n 3, 1) := by decide +kernel
theorem dX12_fewestFor_59 : decode cX12_fewestFor 59 = .ok (.iload 4, 2) := by decide +kernel
theorem dX12_fewestFor_61 : decode cX12_fewestFor 61 = .ok (.iload 6, 2) := by decide +kernel
theorem dX12_fewestFor_63 : decode cX12_fewestFor 63 = .ok (.invokevirtual 354, 3) := by decide +kernel
theorem dX12_fewestFor_66 : decode cX12_fewestFor 66 = .ok (.ifCond .ne 6, 3) := by decide +kernel
theorem dX12_fewestFor_69 : decode cX12_fewestFor 69 = .ok (.goto 7, 3) := by decide +kernel
theorem dX12_fewestFor_72 : decode cX12_fewestFor 72 = .ok (.iload 6, 2) := by decide +kernel
theorem dX12_fewestFor_74 : decode cX12_fewestFor 74 = .ok (.istore 5, 2) := by decide +kernel
theorem dX12_fewestFor_76 : decode cX12_fewestFor 76 = .ok (.iinc 6 1, 3) := by decide +kernel
theorem dX12_fewestFor_79 : decode cX12_fewestFor 79 = .ok (.goto (-73), 3) := by decide +kernel
theorem dX12_fewestFor_82 : decode cX12_fewestFor 82 = .ok (.iload 5, 2) := by decide +kernel
theorem dX12_fewestFor_84 : decode cX12_fewestFor 84 = .ok (.ireturn, 1) := by decide +kernel
theorem dX12_isWithout_0 : decode cX12_isWithout 0 = .ok (.iconst 0, 1) := by decide +kernel
theorem dX12_isWithout_1 : decode cX12_isWithout 1 = .ok (.istore 6, 2) := by decide +kernel
theorem dX12_isWithout_3 : decode cX12_isWithout 3 = .ok (.iload 6, 2) := by decide +kernel
theorem dX12_isWithout_5 : decode cX12_isWithout 5 = .ok (.bipush 8, 2) := by decide +kernel
theorem dX12_isWithout_7 : decode cX12_isWithout 7 = .ok (.if_icmp .ge 53, 3) := by decide +kernel
theorem dX12_isWithout_10 : decode cX12_isWithout 10 = .ok (.aload_n 0, 1) := by decide +kernel
theorem dX12_isWithout_11 : decode cX12_isWithout 11 = .ok (.getfield 39, 3) := by decide +kernel
theorem dX12_isWithout_14 : decode cX12_isWithout 14 = .ok (.iload 6, 2) := by decide +kernel
theorem dX12_isWithout_16 : decode cX12_isWithout 16 = .ok (.aload_n 0, 1) := by decide +kernel
theorem dX12_isWithout_17 : decode cX12_isWithout 17 = .ok (.getfield 13, 3) := by decide +kernel
theorem dX12_isWithout_20 : decode cX12_isWithout 20 = .ok (.bipush 68, 2) := by decide +kernel
theorem dX12_isWithout_22 : decode cX12_isWithout 22 = .ok (.iload 6, 2) := by decide +kernel
theorem dX12_isWithout_24 : decode cX12_isWithout 24 = .ok (.iadd, 1) := by decide +kernel
theorem dX12_isWithout_25 : decode cX12_isWithout 25 = .ok (.iaload, 1) := by decide +kernel
theorem dX12_isWithout_26 : decode cX12_isWithout 26 = .ok (.iastore, 1) := by decide +kernel
theorem dX12_isWithout_27 : decode cX12_isWithout 27 = .ok (.iload 4, 2) := by decide +kernel
theorem dX12_isWithout_29 : decode cX12_isWithout 29 = .ok (.ifCond .eq 25, 3) := by decide +kernel
theorem dX12_isWithout_32 : decode cX12_isWithout 32 = .ok (.iload 5, 2) := by decide +kernel
theorem dX12_isWithout_34 : decode cX12_isWithout 34 = .ok (.i2l, 1) := by decide +kernel
theorem dX12_isWithout_35 : decode cX12_isWithout 35 = .ok (.iload 6, 2) := by decide +kernel
theorem dX12_isWithout_37 : decode cX12_isWithout 37 = .ok (.invokestatic 213, 3) := by decide +kernel
theorem dX12_isWithout_40 : decode cX12_isWithout 40 = .ok (.ifCond .eq 14, 3) := by decide +kernel
theorem dX12_isWithout_43 : decode cX12_isWithout 43 = .ok (.aload_n 0, 1) := by decide +kernel
theorem dX12_isWithout_44 : decode cX12_isWithout 44 = .ok (.getfield 13, 3) := by decide +kernel
theorem dX12_isWithout_47 : decode cX12_isWithout 47 = .ok (.bipush 68, 2) := by decide +kernel
theorem dX12_isWithout_49 : decode cX12_isWithout 49 = .ok (.iload 6, 2) := by decide +kernel
theorem dX12_isWithout_51 : decode cX12_isWithout 51 = .ok (.iadd, 1) := by decide +kernel
theorem dX12_isWithout_52 : decode cX12_isWithout 52 = .ok (.iconst (-1), 1) := by decide +kernel
theorem dX12_isWithout_53 : decode cX12_isWithout 53 = .ok (.iastore, 1) := by decide +kernel
theorem dX12_isWithout_54 : decode cX12_isWithout 54 = .ok (.iinc 6 1, 3) := by decide +kernel
theorem dX12_isWithout_57 : decode cX12_isWithout 57 = .ok (.goto (-54), 3) := by decide +kernel
theorem dX12_isWithout_60 : decode cX12_isWithout 60 = .ok (.aload_n 0, 1) := by decide +kernel
theorem dX12_isWithout_61 : decode cX12_isWithout 61 = .ok (.iload 4, 2) := by decide +kernel
theorem dX12_isWithout_63 : decode cX12_isWithout 63 = .ok (.ifCond .eq 7, 3) := by decide +kernel
theorem dX12_isWithout_66 : decode cX12_isWithout 66 = .ok (.iconst 0, 1) := by decide +kernel
theorem dX12_isWithout_67 : decode cX12_isWithout 67 = .ok (.goto 5, 3) := by decide +kernel
theorem dX12_isWithout_70 : decode cX12_isWithout 70 = .ok (.iload 5, 2) := by decide +kernel
theorem dX12_isWithout_72 : decode cX12_isWithout 72 = .ok (.putfield 252, 3) := by decide +kernel
theorem dX12_isWithout_75 : decode cX12_isWithout 75 = .ok (.aload_n 0, 1) := by decide +kernel
theorem dX12_isWithout_76 : decode cX12_isWithout 76 = .ok (.iload_n 1, 1) := by decide +kernel
theorem dX12_isWithout_77 : decode cX12_isWithout 77 = .ok (.iload_n 2, 1) := by decide +kernel
theorem dX12_isWithout_78 : decode cX12_isWithout 78 = .ok (.iload_n 3, 1) := by decide +kernel
theorem dX12_isWithout_79 : decode cX12_isWithout 79 = .ok (.invokevirtual 358, 3) := by decide +kernel
theorem dX12_isWithout_82 : decode cX12_isWithout 82 = .ok (.ifCond .ne 7, 3) := by decide +kernel
theorem dX12_isWithout_85 : decode cX12_isWithout 85 = .ok (.iconst 1, 1) := by decide +kernel
theorem dX12_isWithout_86 : decode cX12_isWithout 86 = .ok (.goto 4, 3) := by decide +kernel
theorem dX12_isWithout_89 : decode cX12_isWithout 89 = .ok (.iconst 0, 1) := by decide +kernel
theorem dX12_isWithout_90 : decode cX12_isWithout 90 = .ok (.istore 6, 2) := by decide +kernel
theorem dX12_isWithout_92 : decode cX12_isWithout 92 = .ok (.aload_n 0, 1) := by decide +kernel
theorem dX12_isWithout_93 : decode cX12_isWithout 93 = .ok (.iconst 0, 1) := by decide +kernel
theorem dX12_isWithout_94 : decode cX12_isWithout 94 = .ok (.putfield 252, 3) := by decide +kernel
theorem dX12_isWithout_97 : decode cX12_isWithout 97 = .ok (.iconst 0, 1) := by decide +kernel
theorem dX12_isWithout_98 : decode cX12_isWithout 98 = .ok (.istore 7, 2) := by decide +kernel
theorem dX12_isWithout_100 : decode cX12_isWithout 100 = .ok (.iload 7, 2) := by decide +kernel
theorem dX12_isWithout_102 : decode cX12_isWithout 102 = .ok (.bipush 8, 2) := by decide +kernel
theorem dX12_isWithout_104 : decode cX12_isWithout 104 = .ok (.if_icmp .ge 26, 3) := by decide +kernel
theorem dX12_isWithout_107 : decode cX12_isWithout 107 = .ok (.aload_n 0, 1) := by decide +kernel
theorem dX12_isWithout_108 : decode cX12_isWithout 108 = .ok (.getfield 13, 3) := by decide +kernel
theorem dX12_isWithout_111 : decode cX12_isWithout 111 = .ok (.bipush 68, 2) := by decide +kernel
theorem dX12_isWithout_113 : decode cX12_isWithout 113 = .ok (.iload 7, 2) := by decide +kernel
theorem dX12_isWithout_115 : decode cX12_isWithout 115 = .ok (.iadd, 1) := by decide +kernel
theorem dX12_isWithout_116 : decode cX12_isWithout 116 = .ok (.aload_n 0, 1) := by decide +kernel
theorem dX12_isWithout_117 : decode cX12_isWithout 117 = .ok (.getfield 39, 3) := by decide +kernel
theorem dX12_isWithout_120 : decode cX12_isWithout 120 = .ok (.iload 7, 2) := by decide +kernel
theorem dX12_isWithout_122 : decode cX12_isWithout 122 = .ok (.iaload, 1) := by decide +kernel
theorem dX12_isWithout_123 : decode cX12_isWithout 123 = .ok (.iastore, 1) := by decide +kernel
theorem dX12_isWithout_124 : decode cX12_isWithout 124 = .ok (.iinc 7 1, 3) := by decide +kernel
theorem dX12_isWithout_127 : decode cX12_isWithout 127 = .ok (.goto (-27), 3) := by decide +kernel
theorem dX12_isWithout_130 : decode cX12_isWithout 130 = .ok (.iload 6, 2) := by decide +kernel
theorem dX12_isWithout_132 : decode cX12_isWithout 132 = .ok (.ireturn, 1) := by decide +kernel
theorem dX12_without_0 : decode cX12_without 0 = .ok (.aload_n 0, 1) := by decide +kernel
theorem dX12_without_1 : decode cX12_without 1 = .ok (.iload_n 1, 1) := by decide +kernel
theorem dX12_without_2 : decode cX12_without 2 = .ok (.i2l, 1) := by decide +kernel
theorem dX12_without_3 : decode cX12_without 3 = .ok (.invokevirtual 244, 3) := by decide +kernel
theorem dX12_without_6 : decode cX12_without 6 = .ok (.ifCond .eq 23, 3) := by decide +kernel
theorem dX12_without_9 : decode cX12_without 9 = .ok (.aload_n 0, 1) := by decide +kernel
theorem dX12_without_10 : decode cX12_without 10 = .ok (.iload_n 2, 1) := by decide +kernel
theorem dX12_without_11 : decode cX12_without 11 = .ok (.i2l, 1) := by decide +kernel
theorem dX12_without_12 : decode cX12_without 12 = .ok (.invokevirtual 224, 3) := by decide +kernel
theorem dX12_without_15 : decode cX12_without 15 = .ok (.ifCond .eq 14, 3) := by decide +kernel
theorem dX12_without_18 : decode cX12_without 18 = .ok (.iload 4, 2) := by decide +kernel
theorem dX12_without_20 : decode cX12_without 20 = .ok (.i2l, 1) := by decide +kernel
theorem dX12_without_21 : decode cX12_without 21 = .ok (.lconst 0, 1) := by decide +kernel
theorem dX12_without_22 : decode cX12_without 22 = .ok (.lconst 1, 1) := by decide +kernel
theorem dX12_without_23 : decode cX12_without 23 = .ok (.invokestatic 130, 3) := by decide +kernel
theorem dX12_without_26 : decode cX12_without 26 = .ok (.ifCond .ne 6, 3) := by decide +kernel
theorem dX12_without_29 : decode cX12_without 29 = .ok (.bipush (-2), 2) := by decide +kernel
theorem dX12_without_31 : decode cX12_without 31 = .ok (.ireturn, 1) := by decide +kernel
theorem dX12_without_32 : decode cX12_without 32 = .ok (.iload_n 3, 1) := by decide +kernel
theorem dX12_without_33 : decode cX12_without 33 = .ok (.invokestatic 348, 3) := by decide +kernel
theorem dX12_without_36 : decode cX12_without 36 = .ok (.ifCond .ne 6, 3) := by decide +kernel
theorem dX12_without_39 : decode cX12_without 39 = .ok (.bipush (-3), 2) := by decide +kernel
theorem dX12_without_41 : decode cX12_without 41 = .ok (.ireturn, 1) := by decide +kernel
theorem dX12_without_42 : decode cX12_without 42 = .ok (.aload_n 0, 1) := by decide +kernel
theorem dX12_without_43 : decode cX12_without 43 = .ok (.iload_n 1, 1) := by decide +kernel
theorem dX12_without_44 : decode cX12_without 44 = .ok (.iload_n 2, 1) := by decide +kernel
theorem dX12_without_45 : decode cX12_without 45 = .ok (.iload_n 3, 1) := by decide +kernel
theorem dX12_without_46 : decode cX12_without 46 = .ok (.iload 5, 2) := by decide +kernel
theorem dX12_without_48 : decode cX12_without 48 = .ok (.invokevirtual 362, 3) := by decide +kernel
theorem dX12_without_51 : decode cX12_without 51 = .ok (.istore 6, 2) := by decide +kernel
theorem dX12_without_53 : decode cX12_without 53 = .ok (.iload 6, 2) := by decide +kernel
theorem dX12_without_55 : decode cX12_without 55 = .ok (.iconst (-1), 1) := by decide +kernel
theorem dX12_without_56 : decode cX12_without 56 = .ok (.if_icmp .eq 9, 3) := by decide +kernel
theorem dX12_without_59 : decode cX12_without 59 = .ok (.iload 4, 2) := by decide +kernel
theorem dX12_without_61 : decode cX12_without 61 = .ok (.iconst 1, 1) := by decide +kernel
theorem dX12_without_62 : decode cX12_without 62 = .ok (.if_icmp .ne 8, 3) := by decide +kernel
theorem dX12_without_65 : decode cX12_without 65 = .ok (.iload 6, 2) := by decide +kernel
theorem dX12_without_67 : decode cX12_without 67 = .ok (.goto 8, 3) := by decide +kernel
theorem dX12_without_70 : decode cX12_without 70 = .ok (.iload 6, 2) := by decide +kernel
theorem dX12_without_72 : decode cX12_without 72 = .ok (.invokestatic 339, 3) := by decide +kernel
theorem dX12_without_75 : decode cX12_without 75 = .ok (.ireturn, 1) := by decide +kernel
theorem dX12_shut_0 : decode cX12_shut 0 = .ok (.aload_n 0, 1) := by decide +kernel
theorem dX12_shut_1 : decode cX12_shut 1 = .ok (.iconst 0, 1) := by decide +kernel
theorem dX12_shut_2 : decode cX12_shut 2 = .ok (.putfield 1, 3) := by decide +kernel
theorem dX12_shut_5 : decode cX12_shut 5 = .ok (.aload_n 0, 1) := by decide +kernel
theorem dX12_shut_6 : decode cX12_shut 6 = .ok (.iload_n 1, 1) := by decide +kernel
theorem dX12_shut_7 : decode cX12_shut 7 = .ok (.iload_n 2, 1) := by decide +kernel
theorem dX12_shut_8 : decode cX12_shut 8 = .ok (.iload_n 3, 1) := by decide +kernel
theorem dX12_shut_9 : decode cX12_shut 9 = .ok (.iload 4, 2) := by decide +kernel
theorem dX12_shut_11 : decode cX12_shut 11 = .ok (.iconst 0, 1) := by decide +kernel
theorem dX12_shut_12 : decode cX12_shut 12 = .ok (.invokevirtual 366, 3) := by decide +kernel
theorem dX12_shut_15 : decode cX12_shut 15 = .ok (.ireturn, 1) := by decide +kernel
theorem dX12_take_0 : decode cX12_take 0 = .ok (.aload_n 0, 1) := by decide +kernel
theorem dX12_take_1 : decode cX12_take 1 = .ok (.iconst 0, 1) := by decide +kernel
theorem dX12_take_2 : decode cX12_take 2 = .ok (.putfield 1, 3) := by decide +kernel
theorem dX12_take_5 : decode cX12_take 5 = .ok (.aload_n 0, 1) := by decide +kernel
theorem dX12_take_6 : decode cX12_take 6 = .ok (.iload_n 1, 1) := by decide +kernel
theorem dX12_take_7 : decode cX12_take 7 = .ok (.iload_n 2, 1) := by decide +kernel
theorem dX12_take_8 : decode cX12_take 8 = .ok (.iload_n 3, 1) := by decide +kernel
theorem dX12_take_9 : decode cX12_take 9 = .ok (.iload 4, 2) := by decide +kernel
theorem dX12_take_11 : decode cX12_take 11 = .ok (.iconst 1, 1) := by decide +kernel
theorem dX12_take_12 : decode cX12_take 12 = .ok (.invokevirtual 366, 3) := by decide +kernel
theorem dX12_take_15 : decode cX12_take 15 = .ok (.ireturn, 1) := by decide +kernel
theorem dX12_needs_0 : decode cX12_needs 0 = .ok (.aload_n 0, 1) := by decide +kernel
theorem dX12_needs_1 : decode cX12_needs 1 = .ok (.iconst 0, 1) := by decide +kernel
theorem dX12_needs_2 : decode cX12_needs 2 = .ok (.putfield 1, 3) := by decide +kernel
theorem dX12_needs_5 : decode cX12_needs 5 = .ok (.aload_n 0, 1) := by decide +kernel
theorem dX12_needs_6 : decode cX12_needs 6 = .ok (.iload_n 1, 1) := by decide +kernel
theorem dX12_needs_7 : decode cX12_needs 7 = .ok (.i2l, 1) := by decide +kernel
theorem dX12_needs_8 : decode cX12_needs 8 = .ok (.invokevirtual 244, 3) := by decide +kernel
theorem dX12_needs_11 : decode cX12_needs 11 = .ok (.ifCond .ne 6, 3) := by decide +kernel
theorem dX12_needs_14 : decode cX12_needs 14 = .ok (.bipush (-2), 2) := by decide +kernel
theorem dX12_needs_16 : decode cX12_needs 16 = .ok (.ireturn, 1) := by decide +kernel
theorem dX12_needs_17 : decode cX12_needs 17 = .ok (.iload_n 2, 1) := by decide +kernel
theorem dX12_needs_18 : decode cX12_needs 18 = .ok (.invokestatic 348, 3) := by decide +kernel
theorem dX12_needs_21 : decode cX12_needs 21 = .ok (.ifCond .ne 6, 3) := by decide +kernel
theorem dX12_needs_24 : decode cX12_needs 24 = .ok (.bipush (-3), 2) := by decide +kernel
theorem dX12_needs_26 : decode cX12_needs 26 = .ok (.ireturn, 1) := by decide +kernel
theorem dX12_needs_27 : decode cX12_needs 27 = .ok (.aload_n 0, 1) := by decide +kernel
theorem dX12_needs_28 : decode cX12_needs 28 = .ok (.iload_n 1, 1) := by decide +kernel
theorem dX12_needs_29 : decode cX12_needs 29 = .ok (.iconst 0, 1) := by decide +kernel
theorem dX12_needs_30 : decode cX12_needs 30 = .ok (.iload_n 2, 1) := by decide +kernel
theorem dX12_needs_31 : decode cX12_needs 31 = .ok (.invokevirtual 351, 3) := by decide +kernel
theorem dX12_needs_34 : decode cX12_needs 34 = .ok (.invokestatic 339, 3) := by decide +kernel
theorem dX12_needs_37 : decode cX12_needs 37 = .ok (.istore_n 3, 1) := by decide +kernel
theorem dX12_needs_38 : decode cX12_needs 38 = .ok (.iconst 0, 1) := by decide +kernel
theorem dX12_needs_39 : decode cX12_needs 39 = .ok (.istore 4, 2) := by decide +kernel
theorem dX12_needs_41 : decode cX12_needs 41 = .ok (.iconst 0, 1) := by decide +kernel
theorem dX12_needs_42 : decode cX12_needs 42 = .ok (.istore 5, 2) := by decide +kernel
theorem dX12_needs_44 : decode cX12_needs 44 = .ok (.iload 5, 2) := by decide +kernel
theorem dX12_needs_46 : decode cX12_needs 46 = .ok (.aload_n 0, 1) := by decide +kernel
theorem dX12_needs_47 : decode cX12_needs 47 = .ok (.getfield 13, 3) := by decide +kernel
theorem dX12_needs_50 : decode cX12_needs 50 = .ok (.iconst 2, 1) := by decide +kernel
theorem dX12_needs_51 : decode cX12_needs 51 = .ok (.iaload, 1) := by decide +kernel
theorem dX12_needs_52 : decode cX12_needs 52 = .ok (.if_icmp .ge 44, 3) := by decide +kernel
theorem dX12_needs_55 : decode cX12_needs 55 = .ok (.aload_n 0, 1) := by decide +kernel
theorem dX12_needs_56 : decode cX12_needs 56 = .ok (.iconst 1, 1) := by decide +kernel
theorem dX12_needs_57 : decode cX12_needs 57 = .ok (.iload 5, 2) := by decide +kernel
theorem dX12_needs_59 : decode cX12_needs 59 = .ok (.ishl, 1) := by decide +kernel
theorem dX12_needs_60 : decode cX12_needs 60 = .ok (.putfield 252, 3) := by decide +kernel
theorem dX12_needs_63 : decode cX12_needs 63 = .ok (.iload 4, 2) := by decide +kernel
theorem dX12_needs_65 : decode cX12_needs 65 = .ok (.aload_n 0, 1) := by decide +kernel
theorem dX12_needs_66 : decode cX12_needs 66 = .ok (.iload_n 1, 1) := by decide +kernel
theorem dX12_needs_67 : decode cX12_needs 67 = .ok (.iconst 0, 1) := by decide +kernel
theorem dX12_needs_68 : decode cX12_needs 68 = .ok (.iload_n 2, 1) := by decide +kernel
theorem dX12_needs_69 : decode cX12_needs 69 = .ok (.invokevirtual 351, 3) := by decide +kernel
theorem dX12_needs_72 : decode cX12_needs 72 = .ok (.invokestatic 339, 3) := by decide +kernel
theorem dX12_needs_75 : decode cX12_needs 75 = .ok (.iload_n 3, 1) := by decide +kernel
theorem dX12_needs_76 : decode cX12_needs 76 = .ok (.if_icmp .ge 10, 3) := by decide +kernel
theorem dX12_needs_79 : decode cX12_needs 79 = .ok (.iconst 1, 1) := by decide +kernel
theorem dX12_needs_80 : decode cX12_needs 80 = .ok (.iload 5, 2) := by decide +kernel
theorem dX12_needs_82 : decode cX12_needs 82 = .ok (.ishl, 1) := by decide +kernel
theorem dX12_needs_83 : decode cX12_needs 83 = .ok (.goto 4, 3) := by decide +kernel
theorem dX12_needs_86 : decode cX12_needs 86 = .ok (.iconst 0, 1) := by decide +kernel
theorem dX12_needs_87 : decode cX12_needs 87 = .ok (.ior, 1) := by decide +kernel
theorem dX12_needs_88 : decode cX12_needs 88 = .ok (.istore 4, 2) := by decide +kernel
theorem dX12_needs_90 : decode cX12_needs 90 = .ok (.iinc 5 1, 3) := by decide +kernel
theorem dX12_needs_93 : decode cX12_needs 93 = .ok (.goto (-49), 3) := by decide +kernel
theorem dX12_needs_96 : decode cX12_needs 96 = .ok (.aload_n 0, 1) := by decide +kernel
theorem dX12_needs_97 : decode cX12_needs 97 = .ok (.iconst 0, 1) := by decide +kernel
theorem dX12_needs_98 : decode cX12_needs 98 = .ok (.putfield 252, 3) := by decide +kernel
theorem dX12_needs_101 : decode cX12_needs 101 = .ok (.iload 4, 2) := by decide +kernel
theorem dX12_needs_103 : decode cX12_needs 103 = .ok (.ireturn, 1) := by decide +kernel
theorem dX12_laysComes_0 : decode cX12_laysComes 0 = .ok (.iconst 0, 1) := by decide +kernel
theorem dX12_laysComes_1 : decode cX12_laysComes 1 = .ok (.istore_n 2, 1) := by decide +kernel
theorem dX12_laysComes_2 : decode cX12_laysComes 2 = .ok (.iload_n 2, 1) := by decide +kernel
theorem dX12_laysComes_3 : decode cX12_laysComes 3 = .ok (.aload_n 0, 1) := by decide +kernel
theorem dX12_laysComes_4 : decode cX12_laysComes 4 = .ok (.getfield 13, 3) := by decide +kernel
theorem dX12_laysComes_7 : decode cX12_laysComes 7 = .ok (.iconst 1, 1) := by decide +kernel
theorem dX12_laysComes_8 : decode cX12_laysComes 8 = .ok (.iaload, 1) := by decide +kernel
theorem dX12_laysComes_9 : decode cX12_laysComes 9 = .ok (.if_icmp .ge 37, 3) := by decide +kernel
theorem dX12_laysComes_12 : decode cX12_laysComes 12 = .ok (.aload_n 0, 1) := by decide +kernel
theorem dX12_laysComes_13 : decode cX12_laysComes 13 = .ok (.invokevirtual 267, 3) := by decide +kernel
theorem dX12_laysComes_16 : decode cX12_laysComes 16 = .ok (.aload_n 0, 1) := by decide +kernel
theorem dX12_laysComes_17 : decode cX12_laysComes 17 = .ok (.iload_n 2, 1) := by decide +kernel
theorem dX12_laysComes_18 : decode cX12_laysComes 18 = .ok (.iconst 0, 1) := by decide +kernel
theorem dX12_laysComes_19 : decode cX12_laysComes 19 = .ok (.iload_n 1, 1) := by decide +kernel
theorem dX12_laysComes_20 : decode cX12_laysComes 20 = .ok (.invokevirtual 342, 3) := by decide +kernel
theorem dX12_laysComes_23 : decode cX12_laysComes 23 = .ok (.aload_n 0, 1) := by decide +kernel
theorem dX12_laysComes_24 : decode cX12_laysComes 24 = .ok (.getfield 42, 3) := by decide +kernel
theorem dX12_laysComes_27 : decode cX12_laysComes 27 = .ok (.iload_n 2, 1) := by decide +kernel
theorem dX12_laysComes_28 : decode cX12_laysComes 28 = .ok (.aload_n 0, 1) := by decide +kernel
theorem dX12_laysComes_29 : decode cX12_laysComes 29 = .ok (.getfield 13, 3) := by decide +kernel
theorem dX12_laysComes_32 : decode cX12_laysComes 32 = .ok (.bipush 76, 2) := by decide +kernel
theorem dX12_laysComes_34 : decode cX12_laysComes 34 = .ok (.iaload, 1) := by decide +kernel
theorem dX12_laysComes_35 : decode cX12_laysComes 35 = .ok (.iastore, 1) := by decide +kernel
theorem dX12_laysComes_36 : decode cX12_laysComes 36 = .ok (.aload_n 0, 1) := by decide +kernel
theorem dX12_laysComes_37 : decode cX12_laysComes 37 = .ok (.invokevirtual 324, 3) := by decide +kernel
theorem dX12_laysComes_40 : decode cX12_laysComes 40 = .ok (.iinc 2 1, 3) := by decide +kernel
theorem dX12_laysComes_43 : decode cX12_laysComes 43 = .ok (.goto (-41), 3) := by decide +kernel
theorem dX12_laysComes_46 : decode cX12_laysComes 46 = .ok (.return_, 1) := by decide +kernel
theorem dX12_seenBy_0 : decode cX12_seenBy 0 = .ok (.iconst 0, 1) := by decide +kernel
theorem dX12_seenBy_1 : decode cX12_seenBy 1 = .ok (.istore_n 2, 1) := by decide +kernel
theorem dX12_seenBy_2 : decode cX12_seenBy 2 = .ok (.iconst 0, 1) := by decide +kernel
theorem dX12_seenBy_3 : decode cX12_seenBy 3 = .ok (.istore_n 3, 1) := by decide +kernel
theorem dX12_seenBy_4 : decode cX12_seenBy 4 = .ok (.iload_n 3, 1) := by decide +kernel
theorem dX12_seenBy_5 : decode cX12_seenBy 5 = .ok (.aload_n 0, 1) := by decide +kernel
theorem dX12_seenBy_6 : decode cX12_seenBy 6 = .ok (.getfield 13, 3) := by decide +kernel
theorem dX12_seenBy_9 : decode cX12_seenBy 9 = .ok (.iconst 1, 1) := by decide +kernel
theorem dX12_seenBy_10 : decode cX12_seenBy 10 = .ok (.iaload, 1) := by decide +kernel
theorem dX12_seenBy_11 : decode cX12_seenBy 11 = .ok (.if_icmp .ge 28, 3) := by decide +kernel
theorem dX12_seenBy_14 : decode cX12_seenBy 14 = .ok (.iload_n 2, 1) := by decide +kernel
theorem dX12_seenBy_15 : decode cX12_seenBy 15 = .ok (.aload_n 0, 1) := by decide +kernel
theorem dX12_seenBy_16 : decode cX12_seenBy 16 = .ok (.getfield 42, 3) := by decide +kernel
theorem dX12_seenBy_19 : decode cX12_seenBy 19 = .ok (.iload_n 3, 1) := by decide +kernel
theorem dX12_seenBy_20 : decode cX12_seenBy 20 = .ok (.iaload, 1) := by decide +kernel
theorem dX12_seenBy_21 : decode cX12_seenBy 21 = .ok (.iload_n 1, 1) := by decide +kernel
theorem dX12_seenBy_22 : decode cX12_seenBy 22 = .ok (.iand, 1) := by decide +kernel
theorem dX12_seenBy_23 : decode cX12_seenBy 23 = .ok (.ifCond .ne 7, 3) := by decide +kernel
theorem dX12_seenBy_26 : decode cX12_seenBy 26 = .ok (.iconst 0, 1) := by decide +kernel
theorem dX12_seenBy_27 : decode cX12_seenBy 27 = .ok (.goto 4, 3) := by decide +kernel
theorem dX12_seenBy_30 : decode cX12_seenBy 30 = .ok (.iconst 1, 1) := by decide +kernel
theorem dX12_seenBy_31 : decode cX12_seenBy 31 = .ok (.iadd, 1) := by decide +kernel
theorem dX12_seenBy_32 : decode cX12_seenBy 32 = .ok (.istore_n 2, 1) := by decide +kernel
theorem dX12_seenBy_33 : decode cX12_seenBy 33 = .ok (.iinc 3 1, 3) := by decide +kernel
theorem dX12_seenBy_36 : decode cX12_seenBy 36 = .ok (.goto (-32), 3) := by decide +kernel
theorem dX12_seenBy_39 : decode cX12_seenBy 39 = .ok (.iload_n 2, 1) := by decide +kernel
theorem dX12_seenBy_40 : decode cX12_seenBy 40 = .ok (.ireturn, 1) := by decide +kernel
theorem dX12_bestSpies_0 : decode cX12_bestSpies 0 = .ok (.iconst (-1), 1) := by decide +kernel
theorem dX12_bestSpies_1 : decode cX12_bestSpies 1 = .ok (.istore_n 2, 1) := by decide +kernel
theorem dX12_bestSpies_2 : decode cX12_bestSpies 2 = .ok (.iconst 0, 1) := by decide +kernel
theorem dX12_bestSpies_3 : decode cX12_bestSpies 3 = .ok (.istore_n 3, 1) := by decide +kernel
theorem dX12_bestSpies_4 : decode cX12_bestSpies 4 = .ok (.iload_n 3, 1) := by decide +kernel
theorem dX12_bestSpies_5 : decode cX12_bestSpies 5 = .ok (.iconst 1, 1) := by decide +kernel
theorem dX12_bestSpies_6 : decode cX12_bestSpies 6 = .ok (.aload_n 0, 1) := by decide +kernel
theorem dX12_bestSpies_7 : decode cX12_bestSpies 7 = .ok (.getfield 13, 3) := by decide +kernel
theorem dX12_bestSpies_10 : decode cX12_bestSpies 10 = .ok (.iconst 1, 1) := by decide +kernel
theorem dX12_bestSpies_11 : decode cX12_bestSpies 11 = .ok (.iaload, 1) := by decide +kernel
theorem dX12_bestSpies_12 : decode cX12_bestSpies 12 = .ok (.ishl, 1) := by decide +kernel
theorem dX12_bestSpies_13 : decode cX12_bestSpies 13 = .ok (.if_icmp .ge 37, 3) := by decide +kernel
theorem dX12_bestSpies_16 : decode cX12_bestSpies 16 = .ok (.iload_n 3, 1) := by decide +kernel
theorem dX12_bestSpies_17 : decode cX12_bestSpies 17 = .ok (.invokestatic 339, 3) := by decide +kernel
theorem dX12_bestSpies_20 : decode cX12_bestSpies 20 = .ok (.iload_n 1, 1) := by decide +kernel
theorem dX12_bestSpies_21 : decode cX12_bestSpies 21 = .ok (.if_icmp .ne 23, 3) := by decide +kernel
theorem dX12_bestSpies_24 : decode cX12_bestSpies 24 = .ok (.iload_n 2, 1) := by decide +kernel
theorem dX12_bestSpies_25 : decode cX12_bestSpies 25 = .ok (.iconst (-1), 1) := by decide +kernel
theorem dX12_bestSpies_26 : decode cX12_bestSpies 26 = .ok (.if_icmp .eq 16, 3) := by decide +kernel
theorem dX12_bestSpies_29 : decode cX12_bestSpies 29 = .ok (.aload_n 0, 1) := by decide +kernel
theorem dX12_bestSpies_30 : decode cX12_bestSpies 30 = .ok (.iload_n 3, 1) := by decide +kernel
theorem dX12_bestSpies_31 : decode cX12_bestSpies 31 = .ok (.invokevirtual 370, 3) := by decide +kernel
theorem dX12_bestSpies_34 : decode cX12_bestSpies 34 = .ok (.aload_n 0, 1) := by decide +kernel
theorem dX12_bestSpies_35 : decode cX12_bestSpies 35 = .ok (.iload_n 2, 1) := by decide +kernel
theorem dX12_bestSpies_36 : decode cX12_bestSpies 36 = .ok (.invokevirtual 370, 3) := by decide +kernel
theorem dX12_bestSpies_39 : decode cX12_bestSpies 39 = .ok (.if_icmp .le 5, 3) := by decide +kernel
theorem dX12_bestSpies_42 : decode cX12_bestSpies 42 = .ok (.iload_n 3, 1) := by decide +kernel
theorem dX12_bestSpies_43 : decode cX12_bestSpies 43 = .ok (.istore_n 2, 1) := by decide +kernel
theorem dX12_bestSpies_44 : decode cX12_bestSpies 44 = .ok (.iinc 3 1, 3) := by decide +kernel
theorem dX12_bestSpies_47 : decode cX12_bestSpies 47 = .ok (.goto (-43), 3) := by decide +kernel
theorem dX12_bestSpies_50 : decode cX12_bestSpies 50 = .ok (.iload_n 2, 1) := by decide +kernel
theorem dX12_bestSpies_51 : decode cX12_bestSpies 51 = .ok (.ireturn, 1) := by decide +kernel
theorem dX12_spies_0 : decode cX12_spies 0 = .ok (.aload_n 0, 1) := by decide +kernel
theorem dX12_spies_1 : decode cX12_spies 1 = .ok (.iconst 0, 1) := by decide +kernel
theorem dX12_spies_2 : decode cX12_spies 2 = .ok (.putfield 1, 3) := by decide +kernel
theorem dX12_spies_5 : decode cX12_spies 5 = .ok (.iload_n 3, 1) := by decide +kernel
theorem dX12_spies_6 : decode cX12_spies 6 = .ok (.i2l, 1) := by decide +kernel
theorem dX12_spies_7 : decode cX12_spies 7 = .ok (.lconst 0, 1) := by decide +kernel
theorem dX12_spies_8 : decode cX12_spies 8 = .ok (.lconst 1, 1) := by decide +kernel
theorem dX12_spies_9 : decode cX12_spies 9 = .ok (.invokestatic 130, 3) := by decide +kernel
theorem dX12_spies_12 : decode cX12_spies 12 = .ok (.ifCond .ne 6, 3) := by decide +kernel
theorem dX12_spies_15 : decode cX12_spies 15 = .ok (.bipush (-2), 2) := by decide +kernel
theorem dX12_spies_17 : decode cX12_spies 17 = .ok (.ireturn, 1) := by decide +kernel
theorem dX12_spies_18 : decode cX12_spies 18 = .ok (.iload_n 1, 1) := by decide +kernel
theorem dX12_spies_19 : decode cX12_spies 19 = .ok (.i2l, 1) := by decide +kernel
theorem dX12_spies_20 : decode cX12_spies 20 = .ok (.lconst 1, 1) := by decide +kernel
theorem dX12_spies_21 : decode cX12_spies 21 = .ok (.aload_n 0, 1) := by decide +kernel
theorem dX12_spies_22 : decode cX12_spies 22 = .ok (.getfield 13, 3) := by decide +kernel
theorem dX12_spies_25 : decode cX12_spies 25 = .ok (.iconst 1, 1) := by decide +kernel
theorem dX12_spies_26 : decode cX12_spies 26 = .ok (.iaload, 1) := by decide +kernel
theorem dX12_spies_27 : decode cX12_spies 27 = .ok (.i2l, 1) := by decide +kernel
theorem dX12_spies_28 : decode cX12_spies 28 = .ok (.invokestatic 130, 3) := by decide +kernel
theorem dX12_spies_31 : decode cX12_spies 31 = .ok (.ifCond .eq 10, 3) := by decide +kernel
theorem dX12_spies_34 : decode cX12_spies 34 = .ok (.iload_n 2, 1) := by decide +kernel
theorem dX12_spies_35 : decode cX12_spies 35 = .ok (.invokestatic 348, 3) := by decide +kernel
theorem dX12_spies_38 : decode cX12_spies 38 = .ok (.ifCond .ne 6, 3) := by decide +kernel
theorem dX12_spies_41 : decode cX12_spies 41 = .ok (.bipush (-3), 2) := by decide +kernel
theorem dX12_spies_43 : decode cX12_spies 43 = .ok (.ireturn, 1) := by decide +kernel
theorem dX12_spies_44 : decode cX12_spies 44 = .ok (.aload_n 0, 1) := by decide +kernel
theorem dX12_spies_45 : decode cX12_spies 45 = .ok (.iload_n 2, 1) := by decide +kernel
theorem dX12_spies_46 : decode cX12_spies 46 = .ok (.invokevirtual 373, 3) := by decide +kernel
theorem dX12_spies_49 : decode cX12_spies 49 = .ok (.aload_n 0, 1) := by decide +kernel
theorem dX12_spies_50 : decode cX12_spies 50 = .ok (.iload_n 1, 1) := by decide +kernel
theorem dX12_spies_51 : decode cX12_spies 51 = .ok (.invokevirtual 376, 3) := by decide +kernel
theorem dX12_spies_54 : decode cX12_spies 54 = .ok (.istore 4, 2) := by decide +kernel
theorem dX12_spies_56 : decode cX12_spies 56 = .ok (.iload_n 3, 1) := by decide +kernel
theorem dX12_spies_57 : decode cX12_spies 57 = .ok (.ifCond .ne 12, 3) := by decide +kernel
theorem dX12_spies_60 : decode cX12_spies 60 = .ok (.aload_n 0, 1) := by decide +kernel
theorem dX12_spies_61 : decode cX12_spies 61 = .ok (.iload 4, 2) := by decide +kernel
theorem dX12_spies_63 : decode cX12_spies 63 = .ok (.invokevirtual 370, 3) := by decide +kernel
theorem dX12_spies_66 : decode cX12_spies 66 = .ok (.goto 5, 3) := by decide +kernel
theorem dX12_spies_69 : decode cX12_spies 69 = .ok (.iload 4, 2) := by decide +kernel
theorem dX12_spies_71 : decode cX12_spies 71 = .ok (.ireturn, 1) := by decide +kernel
theorem dX12_watch_0 : decode cX12_watch 0 = .ok (.aload_n 0, 1) := by decide +kernel
theorem dX12_watch_1 : decode cX12_watch 1 = .ok (.iconst 0, 1) := by decide +kernel
theorem dX12_watch_2 : decode cX12_watch 2 = .ok (.putfield 1, 3) := by decide +kernel
theorem dX12_watch_5 : decode cX12_watch 5 = .ok (.iload_n 1, 1) := by decide +kernel
theorem dX12_watch_6 : decode cX12_watch 6 = .ok (.invokestatic 348, 3) := by decide +kernel
theorem dX12_watch_9 : decode cX12_watch 9 = .ok (.ifCond .ne 6, 3) := by decide +kernel
theorem dX12_watch_12 : decode cX12_watch 12 = .ok (.bipush (-3), 2) := by decide +kernel
theorem dX12_watch_14 : decode cX12_watch 14 = .ok (.ireturn, 1) := by decide +kernel
theorem dX12_watch_15 : decode cX12_watch 15 = .ok (.aload_n 0, 1) := by decide +kernel
theorem dX12_watch_16 : decode cX12_watch 16 = .ok (.iload_n 1, 1) := by decide +kernel
theorem dX12_watch_17 : decode cX12_watch 17 = .ok (.invokevirtual 373, 3) := by decide +kernel
theorem dX12_watch_20 : decode cX12_watch 20 = .ok (.iconst 1, 1) := by decide +kernel
theorem dX12_watch_21 : decode cX12_watch 21 = .ok (.istore_n 2, 1) := by decide +kernel
theorem dX12_watch_22 : decode cX12_watch 22 = .ok (.aload_n 0, 1) := by decide +kernel
theorem dX12_watch_23 : decode cX12_watch 23 = .ok (.aload_n 0, 1) := by decide +kernel
theorem dX12_watch_24 : decode cX12_watch 24 = .ok (.iload_n 2, 1) := by decide +kernel
theorem dX12_watch_25 : decode cX12_watch 25 = .ok (.invokevirtual 376, 3) := by decide +kernel
theorem dX12_watch_28 : decode cX12_watch 28 = .ok (.invokevirtual 370, 3) := by decide +kernel
theorem dX12_watch_31 : decode cX12_watch 31 = .ok (.aload_n 0, 1) := by decide +kernel
theorem dX12_watch_32 : decode cX12_watch 32 = .ok (.getfield 13, 3) := by decide +kernel
theorem dX12_watch_35 : decode cX12_watch 35 = .ok (.iconst 1, 1) := by decide +kernel
theorem dX12_watch_36 : decode cX12_watch 36 = .ok (.iaload, 1) := by decide +kernel
theorem dX12_watch_37 : decode cX12_watch 37 = .ok (.if_icmp .ge 9, 3) := by decide +kernel
theorem dX12_watch_40 : decode cX12_watch 40 = .ok (.iinc 2 1, 3) := by decide +kernel
theorem dX12_watch_43 : decode cX12_watch 43 = .ok (.goto (-21), 3) := by decide +kernel
theorem dX12_watch_46 : decode cX12_watch 46 = .ok (.iload_n 2, 1) := by decide +kernel
theorem dX12_watch_47 : decode cX12_watch 47 = .ok (.ireturn, 1) := by decide +kernel
theorem dX12_isHeard_0 : decode cX12_isHeard 0 = .ok (.iload_n 1, 1) := by decide +kernel
theorem dX12_isHeard_1 : decode cX12_isHeard 1 = .ok (.iload_n 2, 1) := by decide +kernel
theorem dX12_isHeard_2 : decode cX12_isHeard 2 = .ok (.if_icmp .eq 53, 3) := by decide +kernel
theorem dX12_isHeard_5 : decode cX12_isHeard 5 = .ok (.aload_n 0, 1) := by decide +kernel
theorem dX12_isHeard_6 : decode cX12_isHeard 6 = .ok (.getfield 13, 3) := by decide +kernel
theorem dX12_isHeard_9 : decode cX12_isHeard 9 = .ok (.bipush 50, 2) := by decide +kernel
theorem dX12_isHeard_11 : decode cX12_isHeard 11 = .ok (.iload_n 2, 1) := by decide +kernel
theorem dX12_isHeard_12 : decode cX12_isHeard 12 = .ok (.iadd, 1) := by decide +kernel
theorem dX12_isHeard_13 : decode cX12_isHeard 13 = .ok (.iaload, 1) := by decide +kernel
theorem dX12_isHeard_14 : decode cX12_isHeard 14 = .ok (.ifCond .ne 41, 3) := by decide +kernel
theorem dX12_isHeard_17 : decode cX12_isHeard 17 = .ok (.aload_n 0, 1) := by decide +kernel
theorem dX12_isHeard_18 : decode cX12_isHeard 18 = .ok (.getfield 13, 3) := by decide +kernel
theorem dX12_isHeard_21 : decode cX12_isHeard 21 = .ok (.bipush 44, 2) := by decide +kernel
theorem dX12_isHeard_23 : decode cX12_isHeard 23 = .ok (.iload_n 1, 1) := by decide +kernel
theorem dX12_isHeard_24 : decode cX12_isHeard 24 = .ok (.iadd, 1) := by decide +kernel
theorem dX12_isHeard_25 : decode cX12_isHeard 25 = .ok (.iaload, 1) := by decide +kernel
theorem dX12_isHeard_26 : decode cX12_isHeard 26 = .ok (.iconst (-1), 1) := by decide +kernel
theorem dX12_isHeard_27 : decode cX12_isHeard 27 = .ok (.if_icmp .eq 28, 3) := by decide +kernel
theorem dX12_isHeard_30 : decode cX12_isHeard 30 = .ok (.aload_n 0, 1) := by decide +kernel
theorem dX12_isHeard_31 : decode cX12_isHeard 31 = .ok (.iload_n 2, 1) := by decide +kernel
theorem dX12_isHeard_32 : decode cX12_isHeard 32 = .ok (.invokevirtual 255, 3) := by decide +kernel
theorem dX12_isHeard_35 : decode cX12_isHeard 35 = .ok (.i2l, 1) := by decide +kernel
theorem dX12_isHeard_36 : decode cX12_isHeard 36 = .ok (.aload_n 0, 1) := by decide +kernel
theorem dX12_isHeard_37 : decode cX12_isHeard 37 = .ok (.getfield 13, 3) := by decide +kernel
theorem dX12_isHeard_40 : decode cX12_isHeard 40 = .ok (.bipush 44, 2) := by decide +kernel
theorem dX12_isHeard_42 : decode cX12_isHeard 42 = .ok (.iload_n 1, 1) := by decide +kernel
theorem dX12_isHeard_43 : decode cX12_isHeard 43 = .ok (.iadd, 1) := by decide +kernel
theorem dX12_isHeard_44 : decode cX12_isHeard 44 = .ok (.iaload, 1) := by decide +kernel
theorem dX12_isHeard_45 : decode cX12_isHeard 45 = .ok (.invokestatic 213, 3) := by decide +kernel
theorem dX12_isHeard_48 : decode cX12_isHeard 48 = .ok (.ifCond .eq 7, 3) := by decide +kernel
theorem dX12_isHeard_51 : decode cX12_isHeard 51 = .ok (.iconst 1, 1) := by decide +kernel
theorem dX12_isHeard_52 : decode cX12_isHeard 52 = .ok (.goto 4, 3) := by decide +kernel
theorem dX12_isHeard_55 : decode cX12_isHeard 55 = .ok (.iconst 0, 1) := by decide +kernel
theorem dX12_isHeard_56 : decode cX12_isHeard 56 = .ok (.ireturn, 1) := by decide +kernel
theorem dX12_mutualMany_0 : decode cX12_mutualMany 0 = .ok (.iconst 0, 1) := by decide +kernel
theorem dX12_mutualMany_1 : decode cX12_mutualMany 1 = .ok (.istore_n 1, 1) := by decide +kernel
theorem dX12_mutualMany_2 : decode cX12_mutualMany 2 = .ok (.iconst 0, 1) := by decide +kernel
theorem dX12_mutualMany_3 : decode cX12_mutualMany 3 = .ok (.istore_n 2, 1) := by decide +kernel
theorem dX12_mutualMany_4 : decode cX12_mutualMany 4 = .ok (.iload_n 2, 1) := by decide +kernel
theorem dX12_mutualMany_5 : decode cX12_mutualMany 5 = .ok (.aload_n 0, 1) := by decide +kernel
theorem dX12_mutualMany_6 : decode cX12_mutualMany 6 = .ok (.getfield 13, 3) := by decide +kernel
theorem dX12_mutualMany_9 : decode cX12_mutualMany 9 = .ok (.iconst 3, 1) := by decide +kernel
theorem dX12_mutualMany_10 : decode cX12_mutualMany 10 = .ok (.iaload, 1) := by decide +kernel
theorem dX12_mutualMany_11 : decode cX12_mutualMany 11 = .ok (.if_icmp .ge 48, 3) := by decide +kernel
theorem dX12_mutualMany_14 : decode cX12_mutualMany 14 = .ok (.iconst 0, 1) := by decide +kernel
theorem dX12_mutualMany_15 : decode cX12_mutualMany 15 = .ok (.istore_n 3, 1) := by decide +kernel
theorem dX12_mutualMany_16 : decode cX12_mutualMany 16 = .ok (.iload_n 3, 1) := by decide +kernel
theorem dX12_mutualMany_17 : decode cX12_mutualMany 17 = .ok (.iload_n 2, 1) := by decide +kernel
theorem dX12_mutualMany_18 : decode cX12_mutualMany 18 = .ok (.if_icmp .ge 35, 3) := by decide +kernel
theorem dX12_mutualMany_21 : decode cX12_mutualMany 21 = .ok (.iload_n 1, 1) := by decide +kernel
theorem dX12_mutualMany_22 : decode cX12_mutualMany 22 = .ok (.aload_n 0, 1) := by decide +kernel
theorem dX12_mutualMany_23 : decode cX12_mutualMany 23 = .ok (.iload_n 2, 1) := by decide +kernel
theorem dX12_mutualMany_24 : decode cX12_mutualMany 24 = .ok (.iload_n 3, 1) := by decide +kernel
theorem dX12_mutualMany_25 : decode cX12_mutualMany 25 = .ok (.invokevirtual 379, 3) := by decide +kernel
theorem dX12_mutualMany_28 : decode cX12_mutualMany 28 = .ok (.ifCond .eq 16, 3) := by decide +kernel
theorem dX12_mutualMany_31 : decode cX12_mutualMany 31 = .ok (.aload_n 0, 1) := by decide +kernel
theorem dX12_mutualMany_32 : decode cX12_mutualMany 32 = .ok (.iload_n 3, 1) := by decide +kernel
theorem dX12_mutualMany_33 : decode cX12_mutualMany 33 = .ok (.iload_n 2, 1) := by decide +kernel
theorem dX12_mutualMany_34 : decode cX12_mutualMany 34 = .ok (.invokevirtual 379, 3) := by decide +kernel
theorem dX12_mutualMany_37 : decode cX12_mutualMany 37 = .ok (.ifCond .eq 7, 3) := by decide +kernel
theorem dX12_mutualMany_40 : decode cX12_mutualMany 40 = .ok (.iconst 1, 1) := by decide +kernel
theorem dX12_mutualMany_41 : decode cX12_mutualMany 41 = .ok (.goto 4, 3) := by decide +kernel
theorem dX12_mutualMany_44 : decode cX12_mutualMany 44 = .ok (.iconst 0, 1) := by decide +kernel
theorem dX12_mutualMany_45 : decode cX12_mutualMany 45 = .ok (.iadd, 1) := by decide +kernel
theorem dX12_mutualMany_46 : decode cX12_mutualMany 46 = .ok (.istore_n 1, 1) := by decide +kernel
theorem dX12_mutualMany_47 : decode cX12_mutualMany 47 = .ok (.iinc 3 1, 3) := by decide +kernel
theorem dX12_mutualMany_50 : decode cX12_mutualMany 50 = .ok (.goto (-34), 3) := by decide +kernel
theorem dX12_mutualMany_53 : decode cX12_mutualMany 53 = .ok (.iinc 2 1, 3) := by decide +kernel
theorem dX12_mutualMany_56 : decode cX12_mutualMany 56 = .ok (.goto (-52), 3) := by decide +kernel
theorem dX12_mutualMany_59 : decode cX12_mutualMany 59 = .ok (.iload_n 1, 1) := by decide +kernel
theorem dX12_mutualMany_60 : decode cX12_mutualMany 60 = .ok (.ireturn, 1) := by decide +kernel
theorem dX12_hears_0 : decode cX12_hears 0 = .ok (.aload_n 0, 1) := by decide +kernel
theorem dX12_hears_1 : decode cX12_hears 1 = .ok (.iconst 0, 1) := by decide +kernel
theorem dX12_hears_2 : decode cX12_hears 2 = .ok (.putfield 1, 3) := by decide +kernel
theorem dX12_hears_5 : decode cX12_hears 5 = .ok (.aload_n 0, 1) := by decide +kernel
theorem dX12_hears_6 : decode cX12_hears 6 = .ok (.iload_n 1, 1) := by decide +kernel
theorem dX12_hears_7 : decode cX12_hears 7 = .ok (.i2l, 1) := by decide +kernel
theorem dX12_hears_8 : decode cX12_hears 8 = .ok (.invokevirtual 224, 3) := by decide +kernel
theorem dX12_hears_11 : decode cX12_hears 11 = .ok (.ifCond .ne 6, 3) := by decide +kernel
theorem dX12_hears_14 : decode cX12_hears 14 = .ok (.bipush (-2), 2) := by decide +kernel
theorem dX12_hears_16 : decode cX12_hears 16 = .ok (.ireturn, 1) := by decide +kernel
theorem dX12_hears_17 : decode cX12_hears 17 = .ok (.iconst 0, 1) := by decide +kernel
theorem dX12_hears_18 : decode cX12_hears 18 = .ok (.istore_n 2, 1) := by decide +kernel
theorem dX12_hears_19 : decode cX12_hears 19 = .ok (.iconst 0, 1) := by decide +kernel
theorem dX12_hears_20 : decode cX12_hears 20 = .ok (.istore_n 3, 1) := by decide +kernel
theorem dX12_hears_21 : decode cX12_hears 21 = .ok (.iload_n 3, 1) := by decide +kernel
theorem dX12_hears_22 : decode cX12_hears 22 = .ok (.aload_n 0, 1) := by decide +kernel
theorem dX12_hears_23 : decode cX12_hears 23 = .ok (.getfield 13, 3) := by decide +kernel
theorem dX12_hears_26 : decode cX12_hears 26 = .ok (.iconst 3, 1) := by decide +kernel
theorem dX12_hears_27 : decode cX12_hears 27 = .ok (.iaload, 1) := by decide +kernel
theorem dX12_hears_28 : decode cX12_hears 28 = .ok (.if_icmp .ge 28, 3) := by decide +kernel
theorem dX12_hears_31 : decode cX12_hears 31 = .ok (.iload_n 2, 1) := by decide +kernel
theorem dX12_hears_32 : decode cX12_hears 32 = .ok (.aload_n 0, 1) := by decide +kernel
theorem dX12_hears_33 : decode cX12_hears 33 = .ok (.iload_n 3, 1) := by decide +kernel
theorem dX12_hears_34 : decode cX12_hears 34 = .ok (.iload_n 1, 1) := by decide +kernel
theorem dX12_hears_35 : decode cX12_hears 35 = .ok (.invokevirtual 379, 3) := by decide +kernel
theorem dX12_hears_38 : decode cX12_hears 38 = .ok (.ifCond .eq 9, 3) := by decide +kernel
theorem dX12_hears_41 : decode cX12_hears 41 = .ok (.iconst 1, 1) := by decide +kernel
theorem dX12_hears_42 : decode cX12_hears 42 = .ok (.iload_n 3, 1) := by decide +kernel
theorem dX12_hears_43 : decode cX12_hears 43 = .ok (.ishl, 1) := by decide +kernel
theorem dX12_hears_44 : decode cX12_hears 44 = .ok (.goto 4, 3) := by decide +kernel
theorem dX12_hears_47 : decode cX12_hears 47 = .ok (.iconst 0, 1) := by decide +kernel
theorem dX12_hears_48 : decode cX12_hears 48 = .ok (.ior, 1) := by decide +kernel
theorem dX12_hears_49 : decode cX12_hears 49 = .ok (.istore_n 2, 1) := by decide +kernel
theorem dX12_hears_50 : decode cX12_hears 50 = .ok (.iinc 3 1, 3) := by decide +kernel
theorem dX12_hears_53 : decode cX12_hears 53 = .ok (.goto (-32), 3) := by decide +kernel
theorem dX12_hears_56 : decode cX12_hears 56 = .ok (.iload_n 2, 1) := by decide +kernel
theorem dX12_hears_57 : decode cX12_hears 57 = .ok (.ireturn, 1) := by decide +kernel
theorem dX12_mutual_0 : decode cX12_mutual 0 = .ok (.aload_n 0, 1) := by decide +kernel
theorem dX12_mutual_1 : decode cX12_mutual 1 = .ok (.iconst 0, 1) := by decide +kernel
theorem dX12_mutual_2 : decode cX12_mutual 2 = .ok (.putfield 1, 3) := by decide +kernel
theorem dX12_mutual_5 : decode cX12_mutual 5 = .ok (.aload_n 0, 1) := by decide +kernel
theorem dX12_mutual_6 : decode cX12_mutual 6 = .ok (.invokevirtual 383, 3) := by decide +kernel
theorem dX12_mutual_9 : decode cX12_mutual 9 = .ok (.ireturn, 1) := by decide +kernel
theorem dX12_passes_0 : decode cX12_passes 0 = .ok (.aload_n 0, 1) := by decide +kernel
theorem dX12_passes_1 : decode cX12_passes 1 = .ok (.iconst 0, 1) := by decide +kernel
theorem dX12_passes_2 : decode cX12_passes 2 = .ok (.putfield 1, 3) := by decide +kernel
theorem dX12_passes_5 : decode cX12_passes 5 = .ok (.aload_n 0, 1) := by decide +kernel
theorem dX12_passes_6 : decode cX12_passes 6 = .ok (.iload_n 1, 1) := by decide +kernel
theorem dX12_passes_7 : decode cX12_passes 7 = .ok (.i2l, 1) := by decide +kernel
theorem dX12_passes_8 : decode cX12_passes 8 = .ok (.invokevirtual 224, 3) := by decide +kernel
theorem dX12_passes_11 : decode cX12_passes 11 = .ok (.ifCond .eq 17, 3) := by decide +kernel
theorem dX12_passes_14 : decode cX12_passes 14 = .ok (.aload_n 0, 1) := by decide +kernel
theorem dX12_passes_15 : decode cX12_passes 15 = .ok (.iload_n 2, 1) := by decide +kernel
theorem dX12_passes_16 : decode cX12_passes 16 = .ok (.i2l, 1) := by decide +kernel
theorem dX12_passes_17 : decode cX12_passes 17 = .ok (.invokevirtual 224, 3) := by decide +kernel
theorem dX12_passes_20 : decode cX12_passes 20 = .ok (.ifCond .eq 8, 3) := by decide +kernel
theorem dX12_passes_23 : decode cX12_passes 23 = .ok (.iload_n 1, 1) := by decide +kernel
theorem dX12_passes_24 : decode cX12_passes 24 = .ok (.iload_n 2, 1) := by decide +kernel
theorem dX12_passes_25 : decode cX12_passes 25 = .ok (.if_icmp .ne 6, 3) := by decide +kernel
theorem dX12_passes_28 : decode cX12_passes 28 = .ok (.bipush (-2), 2) := by decide +kernel
theorem dX12_passes_30 : decode cX12_passes 30 = .ok (.ireturn, 1) := by decide +kernel
theorem dX12_passes_31 : decode cX12_passes 31 = .ok (.iconst 1, 1) := by decide +kernel
theorem dX12_passes_32 : decode cX12_passes 32 = .ok (.iload_n 1, 1) := by decide +kernel
theorem dX12_passes_33 : decode cX12_passes 33 = .ok (.ishl, 1) := by decide +kernel
theorem dX12_passes_34 : decode cX12_passes 34 = .ok (.istore_n 3, 1) := by decide +kernel
theorem dX12_passes_35 : decode cX12_passes 35 = .ok (.iconst 1, 1) := by decide +kernel
theorem dX12_passes_36 : decode cX12_passes 36 = .ok (.istore 4, 2) := by decide +kernel
theorem dX12_passes_38 : decode cX12_passes 38 = .ok (.iload 4, 2) := by decide +kernel
theorem dX12_passes_40 : decode cX12_passes 40 = .ok (.bipush 6, 2) := by decide +kernel
theorem dX12_passes_42 : decode cX12_passes 42 = .ok (.if_icmp .gt 98, 3) := by decide +kernel
theorem dX12_passes_45 : decode cX12_passes 45 = .ok (.iload_n 3, 1) := by decide +kernel
theorem dX12_passes_46 : decode cX12_passes 46 = .ok (.istore 5, 2) := by decide +kernel
theorem dX12_passes_48 : decode cX12_passes 48 = .ok (.iconst 0, 1) := by decide +kernel
theorem dX12_passes_49 : decode cX12_passes 49 = .ok (.istore 6, 2) := by decide +kernel
theorem dX12_passes_51 : decode cX12_passes 51 = .ok (.iload 6, 2) := by decide +kernel
theorem dX12_passes_53 : decode cX12_passes 53 = .ok (.aload_n 0, 1) := by decide +kernel
theorem dX12_passes_54 : decode cX12_passes 54 = .ok (.getfield 13, 3) := by decide +kernel
theorem dX12_passes_57 : decode cX12_passes 57 = .ok (.iconst 3, 1) := by decide +kernel
theorem dX12_passes_58 : decode cX12_passes 58 = .ok (.iaload, 1) := by decide +kernel
theorem dX12_passes_59 : decode cX12_passes 59 = .ok (.if_icmp .ge 59, 3) := by decide +kernel
theorem dX12_passes_62 : decode cX12_passes 62 = .ok (.iconst 0, 1) := by decide +kernel
theorem dX12_passes_63 : decode cX12_passes 63 = .ok (.istore 7, 2) := by decide +kernel
theorem dX12_passes_65 : decode cX12_passes 65 = .ok (.iload 7, 2) := by decide +kernel
theorem dX12_passes_67 : decode cX12_passes 67 = .ok (.aload_n 0, 1) := by decide +kernel
theorem dX12_passes_68 : decode cX12_passes 68 = .ok (.getfield 13, 3) := by decide +kernel
theorem dX12_passes_71 : decode cX12_passes 71 = .ok (.iconst 3, 1) := by decide +kernel
theorem dX12_passes_72 : decode cX12_passes 72 = .ok (.iaload, 1) := by decide +kernel
theorem dX12_passes_73 : decode cX12_passes 73 = .ok (.if_icmp .ge 39, 3) := by decide +kernel
theorem dX12_passes_76 : decode cX12_passes 76 = .ok (.iload_n 3, 1) := by decide +kernel
theorem dX12_passes_77 : decode cX12_passes 77 = .ok (.i2l, 1) := by decide +kernel
theorem dX12_passes_78 : decode cX12_passes 78 = .ok (.iload 6, 2) := by decide +kernel
theorem dX12_passes_80 : decode cX12_passes 80 = .ok (.invokestatic 213, 3) := by decide +kernel
theorem dX12_passes_83 : decode cX12_passes 83 = .ok (.ifCond .eq 23, 3) := by decide +kernel
theorem dX12_passes_86 : decode cX12_passes 86 = .ok (.aload_n 0, 1) := by decide +kernel
theorem dX12_passes_87 : decode cX12_passes 87 = .ok (.iload 6, 2) := by decide +kernel
theorem dX12_passes_89 : decode cX12_passes 89 = .ok (.iload 7, 2) := by decide +kernel
theorem dX12_passes_91 : decode cX12_passes 91 = .ok (.invokevirtual 379, 3) := by decide +kernel
theorem dX12_passes_94 : decode cX12_passes 94 = .ok (.ifCond .eq 12, 3) := by decide +kernel
theorem dX12_passes_97 : decode cX12_passes 97 = .ok (.iload 5, 2) := by decide +kernel
theorem dX12_passes_99 : decode cX12_passes 99 = .ok (.iconst 1, 1) := by decide +kernel
theorem dX12_passes_100 : decode cX12_passes 100 = .ok (.iload 7, 2) := by decide +kernel
theorem dX12_passes_102 : decode cX12_passes 102 = .ok (.ishl, 1) := by decide +kernel
theorem dX12_passes_103 : decode cX12_passes 103 = .ok (.ior, 1) := by decide +kernel
theorem dX12_passes_104 : decode cX12_passes 104 = .ok (.istore 5, 2) := by decide +kernel
theorem dX12_passes_106 : decode cX12_passes 106 = .ok (.iinc 7 1, 3) := by decide +kernel
theorem dX12_passes_109 : decode cX12_passes 109 = .ok (.goto (-44), 3) := by decide +kernel
theorem dX12_passes_112 : decode cX12_passes 112 = .ok (.iinc 6 1, 3) := by decide +kernel
theorem dX12_passes_115 : decode cX12_passes 115 = .ok (.goto (-64), 3) := by decide +kernel
theorem dX12_passes_118 : decode cX12_passes 118 = .ok (.iload 5, 2) := by decide +kernel
theorem dX12_passes_120 : decode cX12_passes 120 = .ok (.i2l, 1) := by decide +kernel
theorem dX12_passes_121 : decode cX12_passes 121 = .ok (.iload_n 2, 1) := by decide +kernel
theorem dX12_passes_122 : decode cX12_passes 122 = .ok (.invokestatic 213, 3) := by decide +kernel
theorem dX12_passes_125 : decode cX12_passes 125 = .ok (.ifCond .eq 6, 3) := by decide +kernel
theorem dX12_passes_128 : decode cX12_passes 128 = .ok (.iload 4, 2) := by decide +kernel
theorem dX12_passes_130 : decode cX12_passes 130 = .ok (.ireturn, 1) := by decide +kernel
theorem dX12_passes_131 : decode cX12_passes 131 = .ok (.iload 5, 2) := by decide +kernel
theorem dX12_passes_133 : decode cX12_passes 133 = .ok (.istore_n 3, 1) := by decide +kernel
theorem dX12_passes_134 : decode cX12_passes 134 = .ok (.iinc 4 1, 3) := by decide +kernel
theorem dX12_passes_137 : decode cX12_passes 137 = .ok (.goto (-99), 3) := by decide +kernel
theorem dX12_passes_140 : decode cX12_passes 140 = .ok (.iconst (-1), 1) := by decide +kernel
theorem dX12_passes_141 : decode cX12_passes 141 = .ok (.ireturn, 1) := by decide +kernel
theorem dX12_gift_0 : decode cX12_gift 0 = .ok (.aload_n 0, 1) := by decide +kernel
theorem dX12_gift_1 : decode cX12_gift 1 = .ok (.iconst 0, 1) := by decide +kernel
theorem dX12_gift_2 : decode cX12_gift 2 = .ok (.putfield 1, 3) := by decide +kernel
theorem dX12_gift_5 : decode cX12_gift 5 = .ok (.iconst (-1), 1) := by decide +kernel
theorem dX12_gift_6 : decode cX12_gift 6 = .ok (.istore_n 1, 1) := by decide +kernel
theorem dX12_gift_7 : decode cX12_gift 7 = .ok (.aload_n 0, 1) := by decide +kernel
theorem dX12_gift_8 : decode cX12_gift 8 = .ok (.invokevirtual 383, 3) := by decide +kernel
theorem dX12_gift_11 : decode cX12_gift 11 = .ok (.istore_n 2, 1) := by decide +kernel
theorem dX12_gift_12 : decode cX12_gift 12 = .ok (.iconst 0, 1) := by decide +kernel
theorem dX12_gift_13 : decode cX12_gift 13 = .ok (.istore_n 3, 1) := by decide +kernel
theorem dX12_gift_14 : decode cX12_gift 14 = .ok (.iload_n 3, 1) := by decide +kernel
theorem dX12_gift_15 : decode cX12_gift 15 = .ok (.aload_n 0, 1) := by decide +kernel
theorem dX12_gift_16 : decode cX12_gift 16 = .ok (.getfield 13, 3) := by decide +kernel
theorem dX12_gift_19 : decode cX12_gift 19 = .ok (.iconst 4, 1) := by decide +kernel
theorem dX12_gift_20 : decode cX12_gift 20 = .ok (.iaload, 1) := by decide +kernel
theorem dX12_gift_21 : decode cX12_gift 21 = .ok (.if_icmp .ge 98, 3) := by decide +kernel
theorem dX12_gift_24 : decode cX12_gift 24 = .ok (.aload_n 0, 1) := by decide +kernel
theorem dX12_gift_25 : decode cX12_gift 25 = .ok (.getfield 13, 3) := by decide +kernel
theorem dX12_gift_28 : decode cX12_gift 28 = .ok (.bipush 68, 2) := by decide +kernel
theorem dX12_gift_30 : decode cX12_gift 30 = .ok (.iload_n 3, 1) := by decide +kernel
theorem dX12_gift_31 : decode cX12_gift 31 = .ok (.iadd, 1) := by decide +kernel
theorem dX12_gift_32 : decode cX12_gift 32 = .ok (.iaload, 1) := by decide +kernel
theorem dX12_gift_33 : decode cX12_gift 33 = .ok (.istore 4, 2) := by decide +kernel
theorem dX12_gift_35 : decode cX12_gift 35 = .ok (.iconst 0, 1) := by decide +kernel
theorem dX12_gift_36 : decode cX12_gift 36 = .ok (.istore 5, 2) := by decide +kernel
theorem dX12_gift_38 : decode cX12_gift 38 = .ok (.iload 5, 2) := by decide +kernel
theorem dX12_gift_40 : decode cX12_gift 40 = .ok (.aload_n 0, 1) := by decide +kernel
theorem dX12_gift_41 : decode cX12_gift 41 = .ok (.getfield 13, 3) := by decide +kernel
theorem dX12_gift_44 : decode cX12_gift 44 = .ok (.iconst 3, 1) := by decide +kernel
theorem dX12_gift_45 : decode cX12_gift 45 = .ok (.iaload, 1) := by decide +kernel
theorem dX12_gift_46 : decode cX12_gift 46 = .ok (.if_icmp .ge 56, 3) := by decide +kernel
theorem dX12_gift_49 : decode cX12_gift 49 = .ok (.iload 5, 2) := by decide +kernel
theorem dX12_gift_51 : decode cX12_gift 51 = .ok (.iload 4, 2) := by decide +kernel
theorem dX12_gift_53 : decode cX12_gift 53 = .ok (.if_icmp .ne 6, 3) := by decide +kernel
theorem dX12_gift_56 : decode cX12_gift 56 = .ok (.goto 40, 3) := by decide +kernel
theorem dX12_gift_59 : decode cX12_gift 59 = .ok (.aload_n 0, 1) := by decide +kernel
theorem dX12_gift_60 : decode cX12_gift 60 = .ok (.getfield 13, 3) := by decide +kernel
theorem dX12_gift_63 : decode cX12_gift 63 = .ok (.bipush 68, 2) := by decide +kernel
theorem dX12_gift_65 : decode cX12_gift 65 = .ok (.iload_n 3, 1) := by decide +kernel
theorem dX12_gift_66 : decode cX12_gift 66 = .ok (.iadd, 1) := by decide +kernel
theorem dX12_gift_67 : decode cX12_gift 67 = .ok (.iload 5, 2) := by decide +kernel
theorem dX12_gift_69 : decode cX12_gift 69 = .ok (.iastore, 1) := by decide +kernel
theorem dX12_gift_70 : decode cX12_gift 70 = .ok (.aload_n 0, 1) := by decide +kernel
theorem dX12_gift_71 : decode cX12_gift 71 = .ok (.invokevirtual 383, 3) := by decide +kernel
theorem dX12_gift_74 : decode cX12_gift 74 = .ok (.istore 6, 2) := by decide +kernel
theorem dX12_gift_76 : decode cX12_gift 76 = .ok (.iload 6, 2) := by decide +kernel
theorem dX12_gift_78 : decode cX12_gift 78 = .ok (.iload_n 2, 1) := by decide +kernel
theorem dX12_gift_79 : decode cX12_gift 79 = .ok (.if_icmp .gt 6, 3) := by decide +kernel
theorem dX12_gift_82 : decode cX12_gift 82 = .ok (.goto 14, 3) := by decide +kernel
theorem dX12_gift_85 : decode cX12_gift 85 = .ok (.bipush 10, 2) := by decide +kernel
theorem dX12_gift_87 : decode cX12_gift 87 = .ok (.iload_n 3, 1) := by decide +kernel
theorem dX12_gift_88 : decode cX12_gift 88 = .ok (.imul, 1) := by decide +kernel
theorem dX12_gift_89 : decode cX12_gift 89 = .ok (.iload 5, 2) := by decide +kernel
theorem dX12_gift_91 : decode cX12_gift 91 = .ok (.iadd, 1) := by decide +kernel
theorem dX12_gift_92 : decode cX12_gift 92 = .ok (.istore_n 1, 1) := by decide +kernel
theorem dX12_gift_93 : decode cX12_gift 93 = .ok (.iload 6, 2) := by decide +kernel
theorem dX12_gift_95 : decode cX12_gift 95 = .ok (.istore_n 2, 1) := by decide +kernel
theorem dX12_gift_96 : decode cX12_gift 96 = .ok (.iinc 5 1, 3) := by decide +kernel
theorem dX12_gift_99 : decode cX12_gift 99 = .ok (.goto (-61), 3) := by decide +kernel
theorem dX12_gift_102 : decode cX12_gift 102 = .ok (.aload_n 0, 1) := by decide +kernel
theorem dX12_gift_103 : decode cX12_gift 103 = .ok (.getfield 13, 3) := by decide +kernel
theorem dX12_gift_106 : decode cX12_gift 106 = .ok (.bipush 68, 2) := by decide +kernel
theorem dX12_gift_108 : decode cX12_gift 108 = .ok (.iload_n 3, 1) := by decide +kernel
theorem dX12_gift_109 : decode cX12_gift 109 = .ok (.iadd, 1) := by decide +kernel
theorem dX12_gift_110 : decode cX12_gift 110 = .ok (.iload 4, 2) := by decide +kernel
theorem dX12_gift_112 : decode cX12_gift 112 = .ok (.iastore, 1) := by decide +kernel
theorem dX12_gift_113 : decode cX12_gift 113 = .ok (.iinc 3 1, 3) := by decide +kernel
theorem dX12_gift_116 : decode cX12_gift 116 = .ok (.goto (-102), 3) := by decide +kernel
theorem dX12_gift_119 : decode cX12_gift 119 = .ok (.iload_n 1, 1) := by decide +kernel
theorem dX12_gift_120 : decode cX12_gift 120 = .ok (.ireturn, 1) := by decide +kernel
theorem dX12_noHeard_0 : decode cX12_noHeard 0 = .ok (.aload_n 0, 1) := by decide +kernel
theorem dX12_noHeard_1 : decode cX12_noHeard 1 = .ok (.iload_n 1, 1) := by decide +kernel
theorem dX12_noHeard_2 : decode cX12_noHeard 2 = .ok (.invokevirtual 315, 3) := by decide +kernel
theorem dX12_noHeard_5 : decode cX12_noHeard 5 = .ok (.istore_n 2, 1) := by decide +kernel
theorem dX12_noHeard_6 : decode cX12_noHeard 6 = .ok (.iload_n 2, 1) := by decide +kernel
theorem dX12_noHeard_7 : decode cX12_noHeard 7 = .ok (.ifCond .eq 7, 3) := by decide +kernel
theorem dX12_noHeard_10 : decode cX12_noHeard 10 = .ok (.iload_n 2, 1) := by decide +kernel
theorem dX12_noHeard_11 : decode cX12_noHeard 11 = .ok (.goto 26, 3) := by decide +kernel
theorem dX12_noHeard_14 : decode cX12_noHeard 14 = .ok (.aload_n 0, 1) := by decide +kernel
theorem dX12_noHeard_15 : decode cX12_noHeard 15 = .ok (.getfield 57, 3) := by decide +kernel
theorem dX12_noHeard_18 : decode cX12_noHeard 18 = .ok (.iload_n 1, 1) := by decide +kernel
theorem dX12_noHeard_19 : decode cX12_noHeard 19 = .ok (.iaload, 1) := by decide +kernel
theorem dX12_noHeard_20 : decode cX12_noHeard 20 = .ok (.i2l, 1) := by decide +kernel
theorem dX12_noHeard_21 : decode cX12_noHeard 21 = .ok (.lconst 1, 1) := by decide +kernel
theorem dX12_noHeard_22 : decode cX12_noHeard 22 = .ok (.ldc2_w 386, 3) := by decide +kernel
theorem dX12_noHeard_25 : decode cX12_noHeard 25 = .ok (.invokestatic 130, 3) := by decide +kernel
theorem dX12_noHeard_28 : decode cX12_noHeard 28 = .ok (.ifCond .eq 7, 3) := by decide +kernel
theorem dX12_noHeard_31 : decode cX12_noHeard 31 = .ok (.iconst 0, 1) := by decide +kernel
theorem dX12_noHeard_32 : decode cX12_noHeard 32 = .ok (.goto 5, 3) := by decide +kernel
theorem dX12_noHeard_35 : decode cX12_noHeard 35 = .ok (.bipush (-4), 2) := by decide +kernel
theorem dX12_noHeard_37 : decode cX12_noHeard 37 = .ok (.ireturn, 1) := by decide +kernel
theorem dX12_slipsOf_0 : decode cX12_slipsOf 0 = .ok (.iconst 0, 1) := by decide +kernel
theorem dX12_slipsOf_1 : decode cX12_slipsOf 1 = .ok (.istore_n 3, 1) := by decide +kernel
theorem dX12_slipsOf_2 : decode cX12_slipsOf 2 = .ok (.iconst 0, 1) := by decide +kernel
theorem dX12_slipsOf_3 : decode cX12_slipsOf 3 = .ok (.istore 4, 2) := by decide +kernel
theorem dX12_slipsOf_5 : decode cX12_slipsOf 5 = .ok (.iload 4, 2) := by decide +kernel
theorem dX12_slipsOf_7 : decode cX12_slipsOf 7 = .ok (.aload_n 0, 1) := by decide +kernel
theorem dX12_slipsOf_8 : decode cX12_slipsOf 8 = .ok (.getfield 57, 3) := by decide +kernel
theorem dX12_slipsOf_11 : decode cX12_slipsOf 11 = .ok (.iload_n 1, 1) := by decide +kernel
theorem dX12_slipsOf_12 : decode cX12_slipsOf 12 = .ok (.iaload, 1) := by decide +kernel
theorem dX12_slipsOf_13 : decode cX12_slipsOf 13 = .ok (.if_icmp .ge 60, 3) := by decide +kernel
theorem dX12_slipsOf_16 : decode cX12_slipsOf 16 = .ok (.iload_n 3, 1) := by decide +kernel
theorem dX12_slipsOf_17 : decode cX12_slipsOf 17 = .ok (.aload_n 0, 1) := by decide +kernel
theorem dX12_slipsOf_18 : decode cX12_slipsOf 18 = .ok (.getfield 60, 3) := by decide +kernel
theorem dX12_slipsOf_21 : decode cX12_slipsOf 21 = .ok (.bipush 40, 2) := by decide +kernel
theorem dX12_slipsOf_23 : decode cX12_slipsOf 23 = .ok (.iload_n 1, 1) := by decide +kernel
theorem dX12_slipsOf_24 : decode cX12_slipsOf 24 = .ok (.imul, 1) := by decide +kernel
theorem dX12_slipsOf_25 : decode cX12_slipsOf 25 = .ok (.iload 4, 2) := by decide +kernel
theorem dX12_slipsOf_27 : decode cX12_slipsOf 27 = .ok (.iadd, 1) := by decide +kernel
theorem dX12_slipsOf_28 : decode cX12_slipsOf 28 = .ok (.laload, 1) := by decide +kernel
theorem dX12_slipsOf_29 : decode cX12_slipsOf 29 = .ok (.ldc2_w 290, 3) := by decide +kernel
theorem dX12_slipsOf_32 : decode cX12_slipsOf 32 = .ok (.lcmp, 1) := by decide +kernel
theorem dX12_slipsOf_33 : decode cX12_slipsOf 33 = .ok (.ifCond .eq 27, 3) := by decide +kernel
theorem dX12_slipsOf_36 : decode cX12_slipsOf 36 = .ok (.aload_n 0, 1) := by decide +kernel
theorem dX12_slipsOf_37 : decode cX12_slipsOf 37 = .ok (.getfield 60, 3) := by decide +kernel
theorem dX12_slipsOf_40 : decode cX12_slipsOf 40 = .ok (.bipush 40, 2) := by decide +kernel
theorem dX12_slipsOf_42 : decode cX12_slipsOf 42 = .ok (.iload_n 1, 1) := by decide +kernel
theorem dX12_slipsOf_43 : decode cX12_slipsOf 43 = .ok (.imul, 1) := by decide +kernel
theorem dX12_slipsOf_44 : decode cX12_slipsOf 44 = .ok (.iload 4, 2) := by decide +kernel
theorem dX12_slipsOf_46 : decode cX12_slipsOf 46 = .ok (.iadd, 1) := by decide +kernel
theorem dX12_slipsOf_47 : decode cX12_slipsOf 47 = .ok (.laload, 1) := by decide +kernel
theorem dX12_slipsOf_48 : decode cX12_slipsOf 48 = .ok (.aload_n 0, 1) := by decide +kernel
theorem dX12_slipsOf_49 : decode cX12_slipsOf 49 = .ok (.iload_n 2, 1) := by decide +kernel
theorem dX12_slipsOf_50 : decode cX12_slipsOf 50 = .ok (.iload 4, 2) := by decide +kernel
theorem dX12_slipsOf_52 : decode cX12_slipsOf 52 = .ok (.invokevirtual 249, 3) := by decide +kernel
theorem dX12_slipsOf_55 : decode cX12_slipsOf 55 = .ok (.i2l, 1) := by decide +kernel
theorem dX12_slipsOf_56 : decode cX12_slipsOf 56 = .ok (.lcmp, 1) := by decide +kernel
theorem dX12_slipsOf_57 : decode cX12_slipsOf 57 = .ok (.ifCond .ne 7, 3) := by decide +kernel
theorem dX12_slipsOf_60 : decode cX12_slipsOf 60 = .ok (.iconst 0, 1) := by decide +kernel
theorem dX12_slipsOf_61 : decode cX12_slipsOf 61 = .ok (.goto 4, 3) := by decide +kernel
theorem dX12_slipsOf_64 : decode cX12_slipsOf 64 = .ok (.iconst 1, 1) := by decide +kernel
theorem dX12_slipsOf_65 : decode cX12_slipsOf 65 = .ok (.iadd, 1) := by decide +kernel
theorem dX12_slipsOf_66 : decode cX12_slipsOf 66 = .ok (.istore_n 3, 1) := by decide +kernel
theorem dX12_slipsOf_67 : decode cX12_slipsOf 67 = .ok (.iinc 4 1, 3) := by decide +kernel
theorem dX12_slipsOf_70 : decode cX12_slipsOf 70 = .ok (.goto (-65), 3) := by decide +kernel
theorem dX12_slipsOf_73 : decode cX12_slipsOf 73 = .ok (.iload_n 3, 1) := by decide +kernel
theorem dX12_slipsOf_74 : decode cX12_slipsOf 74 = .ok (.ireturn, 1) := by decide +kernel
theorem dX12_fitting_0 : decode cX12_fitting 0 = .ok (.iconst 0, 1) := by decide +kernel
theorem dX12_fitting_1 : decode cX12_fitting 1 = .ok (.istore_n 2, 1) := by decide +kernel
theorem dX12_fitting_2 : decode cX12_fitting 2 = .ok (.iconst 0, 1) := by decide +kernel
theorem dX12_fitting_3 : decode cX12_fitting 3 = .ok (.istore_n 3, 1) := by decide +kernel
theorem dX12_fitting_4 : decode cX12_fitting 4 = .ok (.iload_n 3, 1) := by decide +kernel
theorem dX12_fitting_5 : decode cX12_fitting 5 = .ok (.aload_n 0, 1) := by decide +kernel
theorem dX12_fitting_6 : decode cX12_fitting 6 = .ok (.getfield 13, 3) := by decide +kernel
theorem dX12_fitting_9 : decode cX12_fitting 9 = .ok (.iconst 1, 1) := by decide +kernel
theorem dX12_fitting_10 : decode cX12_fitting 10 = .ok (.iaload, 1) := by decide +kernel
theorem dX12_fitting_11 : decode cX12_fitting 11 = .ok (.if_icmp .ge 28, 3) := by decide +kernel
theorem dX12_fitting_14 : decode cX12_fitting 14 = .ok (.iload_n 2, 1) := by decide +kernel
theorem dX12_fitting_15 : decode cX12_fitting 15 = .ok (.aload_n 0, 1) := by decide +kernel
theorem dX12_fitting_16 : decode cX12_fitting 16 = .ok (.iload_n 1, 1) := by decide +kernel
theorem dX12_fitting_17 : decode cX12_fitting 17 = .ok (.iload_n 3, 1) := by decide +kernel
theorem dX12_fitting_18 : decode cX12_fitting 18 = .ok (.invokevirtual 388, 3) := by decide +kernel
theorem dX12_fitting_21 : decode cX12_fitting 21 = .ok (.ifCond .ne 9, 3) := by decide +kernel
theorem dX12_fitting_24 : decode cX12_fitting 24 = .ok (.iconst 1, 1) := by decide +kernel
theorem dX12_fitting_25 : decode cX12_fitting 25 = .ok (.iload_n 3, 1) := by decide +kernel
theorem dX12_fitting_26 : decode cX12_fitting 26 = .ok (.ishl, 1) := by decide +kernel
theorem dX12_fitting_27 : decode cX12_fitting 27 = .ok (.goto 4, 3) := by decide +kernel
theorem dX12_fitting_30 : decode cX12_fitting 30 = .ok (.iconst 0, 1) := by decide +kernel
theorem dX12_fitting_31 : decode cX12_fitting 31 = .ok (.ior, 1) := by decide +kernel
theorem dX12_fitting_32 : decode cX12_fitting 32 = .ok (.istore_n 2, 1) := by decide +kernel
theorem dX12_fitting_33 : decode cX12_fitting 33 = .ok (.iinc 3 1, 3) := by decide +kernel
theorem dX12_fitting_36 : decode cX12_fitting 36 = .ok (.goto (-32), 3) := by decide +kernel
theorem dX12_fitting_39 : decode cX12_fitting 39 = .ok (.iload_n 2, 1) := by decide +kernel
theorem dX12_fitting_40 : decode cX12_fitting 40 = .ok (.ireturn, 1) := by decide +kernel
theorem dX12_fits_0 : decode cX12_fits 0 = .ok (.aload_n 0, 1) := by decide +kernel
theorem dX12_fits_1 : decode cX12_fits 1 = .ok (.iconst 0, 1) := by decide +kernel
theorem dX12_fits_2 : decode cX12_fits 2 = .ok (.putfield 1, 3) := by decide +kernel
theorem dX12_fits_5 : decode cX12_fits 5 = .ok (.aload_n 0, 1) := by decide +kernel
theorem dX12_fits_6 : decode cX12_fits 6 = .ok (.iload_n 1, 1) := by decide +kernel
theorem dX12_fits_7 : decode cX12_fits 7 = .ok (.invokevirtual 391, 3) := by decide +kernel
theorem dX12_fits_10 : decode cX12_fits 10 = .ok (.istore_n 2, 1) := by decide +kernel
theorem dX12_fits_11 : decode cX12_fits 11 = .ok (.iload_n 2, 1) := by decide +kernel
theorem dX12_fits_12 : decode cX12_fits 12 = .ok (.ifCond .eq 7, 3) := by decide +kernel
theorem dX12_fits_15 : decode cX12_fits 15 = .ok (.iload_n 2, 1) := by decide +kernel
theorem dX12_fits_16 : decode cX12_fits 16 = .ok (.goto 8, 3) := by decide +kernel
theorem dX12_fits_19 : decode cX12_fits 19 = .ok (.aload_n 0, 1) := by decide +kernel
theorem dX12_fits_20 : decode cX12_fits 20 = .ok (.iload_n 1, 1) := by decide +kernel
theorem dX12_fits_21 : decode cX12_fits 21 = .ok (.invokevirtual 394, 3) := by decide +kernel
theorem dX12_fits_24 : decode cX12_fits 24 = .ok (.ireturn, 1) := by decide +kernel
theorem dX12_slips_0 : decode cX12_slips 0 = .ok (.aload_n 0, 1) := by decide +kernel
theorem dX12_slips_1 : decode cX12_slips 1 = .ok (.iconst 0, 1) := by decide +kernel
theorem dX12_slips_2 : decode cX12_slips 2 = .ok (.putfield 1, 3) := by decide +kernel
theorem dX12_slips_5 : decode cX12_slips 5 = .ok (.iload_n 1, 1) := by decide +kernel
theorem dX12_slips_6 : decode cX12_slips 6 = .ok (.i2l, 1) := by decide +kernel
theorem dX12_slips_7 : decode cX12_slips 7 = .ok (.lconst 0, 1) := by decide +kernel
theorem dX12_slips_8 : decode cX12_slips 8 = .ok (.ldc2_w 313, 3) := by decide +kernel
theorem dX12_slips_11 : decode cX12_slips 11 = .ok (.invokestatic 130, 3) := by decide +kernel
theorem dX12_slips_14 : decode cX12_slips 14 = .ok (.ifCond .eq 12, 3) := by decide +kernel
theorem dX12_slips_17 : decode cX12_slips 17 = .ok (.aload_n 0, 1) := by decide +kernel
theorem dX12_slips_18 : decode cX12_slips 18 = .ok (.iload_n 2, 1) := by decide +kernel
theorem dX12_slips_19 : decode cX12_slips 19 = .ok (.i2l, 1) := by decide +kernel
theorem dX12_slips_20 : decode cX12_slips 20 = .ok (.invokevirtual 244, 3) := by decide +kernel
theorem dX12_slips_23 : decode cX12_slips 23 = .ok (.ifCond .ne 6, 3) := by decide +kernel
theorem dX12_slips_26 : decode cX12_slips 26 = .ok (.bipush (-2), 2) := by decide +kernel
theorem dX12_slips_28 : decode cX12_slips 28 = .ok (.ireturn, 1) := by decide +kernel
theorem dX12_slips_29 : decode cX12_slips 29 = .ok (.aload_n 0, 1) := by decide +kernel
theorem dX12_slips_30 : decode cX12_slips 30 = .ok (.iload_n 1, 1) := by decide +kernel
theorem dX12_slips_31 : decode cX12_slips 31 = .ok (.invokevirtual 391, 3) := by decide +kernel
theorem dX12_slips_34 : decode cX12_slips 34 = .ok (.istore_n 3, 1) := by decide +kernel
theorem dX12_slips_35 : decode cX12_slips 35 = .ok (.iload_n 3, 1) := by decide +kernel
theorem dX12_slips_36 : decode cX12_slips 36 = .ok (.ifCond .eq 7, 3) := by decide +kernel
theorem dX12_slips_39 : decode cX12_slips 39 = .ok (.iload_n 3, 1) := by decide +kernel
theorem dX12_slips_40 : decode cX12_slips 40 = .ok (.goto 9, 3) := by decide +kernel
theorem dX12_slips_43 : decode cX12_slips 43 = .ok (.aload_n 0, 1) := by decide +kernel
theorem dX12_slips_44 : decode cX12_slips 44 = .ok (.iload_n 1, 1) := by decide +kernel
theorem dX12_slips_45 : decode cX12_slips 45 = .ok (.iload_n 2, 1) := by decide +kernel
theorem dX12_slips_46 : decode cX12_slips 46 = .ok (.invokevirtual 388, 3) := by decide +kernel
theorem dX12_slips_49 : decode cX12_slips 49 = .ok (.ireturn, 1) := by decide +kernel
theorem dX12_likeliest_0 : decode cX12_likeliest 0 = .ok (.aload_n 0, 1) := by decide +kernel
theorem dX12_likeliest_1 : decode cX12_likeliest 1 = .ok (.iconst 0, 1) := by decide +kernel
theorem dX12_likeliest_2 : decode cX12_likeliest 2 = .ok (.putfield 1, 3) := by decide +kernel
theorem dX12_likeliest_5 : decode cX12_likeliest 5 = .ok (.aload_n 0, 1) := by decide +kernel
theorem dX12_likeliest_6 : decode cX12_likeliest 6 = .ok (.iload_n 1, 1) := by decide +kernel
theorem dX12_likeliest_7 : decode cX12_likeliest 7 = .ok (.invokevirtual 391, 3) := by decide +kernel
theorem dX12_likeliest_10 : decode cX12_likeliest 10 = .ok (.istore_n 2, 1) := by decide +kernel
theorem dX12_likeliest_11 : decode cX12_likeliest 11 = .ok (.iload_n 2, 1) := by decide +kernel
theorem dX12_likeliest_12 : decode cX12_likeliest 12 = .ok (.ifCond .eq 5, 3) := by decide +kernel
theorem dX12_likeliest_15 : decode cX12_likeliest 15 = .ok (.iload_n 2, 1) := by decide +kernel
theorem dX12_likeliest_16 : decode cX12_likeliest 16 = .ok (.ireturn, 1) := by decide +kernel
theorem dX12_likeliest_17 : decode cX12_likeliest 17 = .ok (.iconst 0, 1) := by decide +kernel
theorem dX12_likeliest_18 : decode cX12_likeliest 18 = .ok (.istore_n 3, 1) := by decide +kernel
theorem dX12_likeliest_19 : decode cX12_likeliest 19 = .ok (.iconst 1, 1) := by decide +kernel
theorem dX12_likeliest_20 : decode cX12_likeliest 20 = .ok (.istore 4, 2) := by decide +kernel
theorem dX12_likeliest_22 : decode cX12_likeliest 22 = .ok (.iload 4, 2) := by decide +kernel
theorem dX12_likeliest_24 : decode cX12_likeliest 24 = .ok (.aload_n 0, 1) := by decide +kernel
theorem dX12_likeliest_25 : decode cX12_likeliest 25 = .ok (.getfield 13, 3) := by decide +kernel
theorem dX12_likeliest_28 : decode cX12_likeliest 28 = .ok (.iconst 1, 1) := by decide +kernel
theorem dX12_likeliest_29 : decode cX12_likeliest 29 = .ok (.iaload, 1) := by decide +kernel
theorem dX12_likeliest_30 : decode cX12_likeliest 30 = .ok (.if_icmp .ge 28, 3) := by decide +kernel
theorem dX12_likeliest_33 : decode cX12_likeliest 33 = .ok (.aload_n 0, 1) := by decide +kernel
theorem dX12_likeliest_34 : decode cX12_likeliest 34 = .ok (.iload_n 1, 1) := by decide +kernel
theorem dX12_likeliest_35 : decode cX12_likeliest 35 = .ok (.iload 4, 2) := by decide +kernel
theorem dX12_likeliest_37 : decode cX12_likeliest 37 = .ok (.invokevirtual 388, 3) := by decide +kernel
theorem dX12_likeliest_40 : decode cX12_likeliest 40 = .ok (.aload_n 0, 1) := by decide +kernel
theorem dX12_likeliest_41 : decode cX12_likeliest 41 = .ok (.iload_n 1, 1) := by decide +kernel
theorem dX12_likeliest_42 : decode cX12_likeliest 42 = .ok (.iload_n 3, 1) := by decide +kernel
theorem dX12_likeliest_43 : decode cX12_likeliest 43 = .ok (.invokevirtual 388, 3) := by decide +kernel
theorem dX12_likeliest_46 : decode cX12_likeliest 46 = .ok (.if_icmp .ge 6, 3) := by decide +kernel
theorem dX12_likeliest_49 : decode cX12_likeliest 49 = .ok (.iload 4, 2) := by decide +kernel
theorem dX12_likeliest_51 : decode cX12_likeliest 51 = .ok (.istore_n 3, 1) := by decide +kernel
theorem dX12_likeliest_52 : decode cX12_likeliest 52 = .ok (.iinc 4 1, 3) := by decide +kernel
theorem dX12_likeliest_55 : decode cX12_likeliest 55 = .ok (.goto (-33), 3) := by decide +kernel
theorem dX12_likeliest_58 : decode cX12_likeliest 58 = .ok (.iload_n 3, 1) := by decide +kernel
theorem dX12_likeliest_59 : decode cX12_likeliest 59 = .ok (.ireturn, 1) := by decide +kernel
theorem dX12_mostAlike_0 : decode cX12_mostAlike 0 = .ok (.iconst 0, 1) := by decide +kernel
theorem dX12_mostAlike_1 : decode cX12_mostAlike 1 = .ok (.istore_n 3, 1) := by decide +kernel
theorem dX12_mostAlike_2 : decode cX12_mostAlike 2 = .ok (.iconst 0, 1) := by decide +kernel
theorem dX12_mostAlike_3 : decode cX12_mostAlike 3 = .ok (.istore 4, 2) := by decide +kernel
theorem dX12_mostAlike_5 : decode cX12_mostAlike 5 = .ok (.iload 4, 2) := by decide +kernel
theorem dX12_mostAlike_7 : decode cX12_mostAlike 7 = .ok (.aload_n 0, 1) := by decide +kernel
theorem dX12_mostAlike_8 : decode cX12_mostAlike 8 = .ok (.getfield 13, 3) := by decide +kernel
theorem dX12_mostAlike_11 : decode cX12_mostAlike 11 = .ok (.iconst 1, 1) := by decide +kernel
theorem dX12_mostAlike_12 : decode cX12_mostAlike 12 = .ok (.iaload, 1) := by decide +kernel
theorem dX12_mostAlike_13 : decode cX12_mostAlike 13 = .ok (.if_icmp .ge 95, 3) := by decide +kernel
theorem dX12_mostAlike_16 : decode cX12_mostAlike 16 = .ok (.iload_n 1, 1) := by decide +kernel
theorem dX12_mostAlike_17 : decode cX12_mostAlike 17 = .ok (.i2l, 1) := by decide +kernel
theorem dX12_mostAlike_18 : decode cX12_mostAlike 18 = .ok (.iload 4, 2) := by decide +kernel
theorem dX12_mostAlike_20 : decode cX12_mostAlike 20 = .ok (.invokestatic 213, 3) := by decide +kernel
theorem dX12_mostAlike_23 : decode cX12_mostAlike 23 = .ok (.ifCond .ne 6, 3) := by decide +kernel
theorem dX12_mostAlike_26 : decode cX12_mostAlike 26 = .ok (.goto 76, 3) := by decide +kernel
theorem dX12_mostAlike_29 : decode cX12_mostAlike 29 = .ok (.iconst 0, 1) := by decide +kernel
theorem dX12_mostAlike_30 : decode cX12_mostAlike 30 = .ok (.istore 5, 2) := by decide +kernel
theorem dX12_mostAlike_32 : decode cX12_mostAlike 32 = .ok (.iconst 0, 1) := by decide +kernel
theorem dX12_mostAlike_33 : decode cX12_mostAlike 33 = .ok (.istore 6, 2) := by decide +kernel
theorem dX12_mostAlike_35 : decode cX12_mostAlike 35 = .ok (.iload 6, 2) := by decide +kernel
theorem dX12_mostAlike_37 : decode cX12_mostAlike 37 = .ok (.aload_n 0, 1) := by decide +kernel
theorem dX12_mostAlike_38 : decode cX12_mostAlike 38 = .ok (.getfield 13, 3) := by decide +kernel
theorem dX12_mostAlike_41 : decode cX12_mostAlike 41 = .ok (.iconst 1, 1) := by decide +kernel
theorem dX12_mostAlike_42 : decode cX12_mostAlike 42 = .ok (.iaload, 1) := by decide +kernel
theorem dX12_mostAlike_43 : decode cX12_mostAlike 43 = .ok (.if_icmp .ge 46, 3) := by decide +kernel
theorem dX12_mostAlike_46 : decode cX12_mostAlike 46 = .ok (.iload 5, 2) := by decide +kernel
theorem dX12_mostAlike_48 : decode cX12_mostAlike 48 = .ok (.iload_n 1, 1) := by decide +kernel
theorem dX12_mostAlike_49 : decode cX12_mostAlike 49 = .ok (.i2l, 1) := by decide +kernel
theorem dX12_mostAlike_50 : decode cX12_mostAlike 50 = .ok (.iload 6, 2) := by decide +kernel
theorem dX12_mostAlike_52 : decode cX12_mostAlike 52 = .ok (.invokestatic 213, 3) := by decide +kernel
theorem dX12_mostAlike_55 : decode cX12_mostAlike 55 = .ok (.ifCond .eq 24, 3) := by decide +kernel
theorem dX12_mostAlike_58 : decode cX12_mostAlike 58 = .ok (.aload_n 0, 1) := by decide +kernel
theorem dX12_mostAlike_59 : decode cX12_mostAlike 59 = .ok (.iload 6, 2) := by decide +kernel
theorem dX12_mostAlike_61 : decode cX12_mostAlike 61 = .ok (.iload_n 2, 1) := by decide +kernel
theorem dX12_mostAlike_62 : decode cX12_mostAlike 62 = .ok (.invokevirtual 249, 3) := by decide +kernel
theorem dX12_mostAlike_65 : decode cX12_mostAlike 65 = .ok (.aload_n 0, 1) := by decide +kernel
theorem dX12_mostAlike_66 : decode cX12_mostAlike 66 = .ok (.iload 4, 2) := by decide +kernel
theorem dX12_mostAlike_68 : decode cX12_mostAlike 68 = .ok (.iload_n 2, 1) := by decide +kernel
theorem dX12_mostAlike_69 : decode cX12_mostAlike 69 = .ok (.invokevirtual 249, 3) := by decide +kernel
theorem dX12_mostAlike_72 : decode cX12_mostAlike 72 = .ok (.if_icmp .ne 7, 3) := by decide +kernel
theorem dX12_mostAlike_75 : decode cX12_mostAlike 75 = .ok (.iconst 1, 1) := by decide +kernel
theorem dX12_mostAlike_76 : decode cX12_mostAlike 76 = .ok (.goto 4, 3) := by decide +kernel
theorem dX12_mostAlike_79 : decode cX12_mostAlike 79 = .ok (.iconst 0, 1) := by decide +kernel
theorem dX12_mostAlike_80 : decode cX12_mostAlike 80 = .ok (.iadd, 1) := by decide +kernel
theorem dX12_mostAlike_81 : decode cX12_mostAlike 81 = .ok (.istore 5, 2) := by decide +kernel
theorem dX12_mostAlike_83 : decode cX12_mostAlike 83 = .ok (.iinc 6 1, 3) := by decide +kernel
theorem dX12_mostAlike_86 : decode cX12_mostAlike 86 = .ok (.goto (-51), 3) := by decide +kernel
theorem dX12_mostAlike_89 : decode cX12_mostAlike 89 = .ok (.iload 5, 2) := by decide +kernel
theorem dX12_mostAlike_91 : decode cX12_mostAlike 91 = .ok (.iload_n 3, 1) := by decide +kernel
theorem dX12_mostAlike_92 : decode cX12_mostAlike 92 = .ok (.if_icmp .le 8, 3) := by decide +kernel
theorem dX12_mostAlike_95 : decode cX12_mostAlike 95 = .ok (.iload 5, 2) := by decide +kernel
theorem dX12_mostAlike_97 : decode cX12_mostAlike 97 = .ok (.goto 4, 3) := by decide +kernel
theorem dX12_mostAlike_100 : decode cX12_mostAlike 100 = .ok (.iload_n 3, 1) := by decide +kernel
theorem dX12_mostAlike_101 : decode cX12_mostAlike 101 = .ok (.istore_n 3, 1) := by decide +kernel
theorem dX12_mostAlike_102 : decode cX12_mostAlike 102 = .ok (.iinc 4 1, 3) := by decide +kernel
theorem dX12_mostAlike_105 : decode cX12_mostAlike 105 = .ok (.goto (-100), 3) := by decide +kernel
theorem dX12_mostAlike_108 : decode cX12_mostAlike 108 = .ok (.iload_n 3, 1) := by decide +kernel
theorem dX12_mostAlike_109 : decode cX12_mostAlike 109 = .ok (.ireturn, 1) := by decide +kernel
theorem dX12_look_0 : decode cX12_look 0 = .ok (.aload_n 0, 1) := by decide +kernel
theorem dX12_look_1 : decode cX12_look 1 = .ok (.iconst 0, 1) := by decide +kernel
theorem dX12_look_2 : decode cX12_look 2 = .ok (.putfield 1, 3) := by decide +kernel
theorem dX12_look_5 : decode cX12_look 5 = .ok (.aload_n 0, 1) := by decide +kernel
theorem dX12_look_6 : decode cX12_look 6 = .ok (.iload_n 1, 1) := by decide +kernel
theorem dX12_look_7 : decode cX12_look 7 = .ok (.invokevirtual 391, 3) := by decide +kernel
theorem dX12_look_10 : decode cX12_look 10 = .ok (.istore_n 2, 1) := by decide +kernel
theorem dX12_look_11 : decode cX12_look 11 = .ok (.iload_n 2, 1) := by decide +kernel
theorem dX12_look_12 : decode cX12_look 12 = .ok (.ifCond .eq 5, 3) := by decide +kernel
theorem dX12_look_15 : decode cX12_look 15 = .ok (.iload_n 2, 1) := by decide +kernel
theorem dX12_look_16 : decode cX12_look 16 = .ok (.ireturn, 1) := by decide +kernel
theorem dX12_look_17 : decode cX12_look 17 = .ok (.aload_n 0, 1) := by decide +kernel
theorem dX12_look_18 : decode cX12_look 18 = .ok (.iload_n 1, 1) := by decide +kernel
theorem dX12_look_19 : decode cX12_look 19 = .ok (.invokevirtual 394, 3) := by decide +kernel
theorem dX12_look_22 : decode cX12_look 22 = .ok (.istore_n 3, 1) := by decide +kernel
theorem dX12_look_23 : decode cX12_look 23 = .ok (.iload_n 3, 1) := by decide +kernel
theorem dX12_look_24 : decode cX12_look 24 = .ok (.ifCond .ne 5, 3) := by decide +kernel
theorem dX12_look_27 : decode cX12_look 27 = .ok (.iconst (-1), 1) := by decide +kernel
theorem dX12_look_28 : decode cX12_look 28 = .ok (.ireturn, 1) := by decide +kernel
theorem dX12_look_29 : decode cX12_look 29 = .ok (.iconst 0, 1) := by decide +kernel
theorem dX12_look_30 : decode cX12_look 30 = .ok (.istore 4, 2) := by decide +kernel
theorem dX12_look_32 : decode cX12_look 32 = .ok (.iconst 1, 1) := by decide +kernel
theorem dX12_look_33 : decode cX12_look 33 = .ok (.istore 5, 2) := by decide +kernel
theorem dX12_look_35 : decode cX12_look 35 = .ok (.iload 5, 2) := by decide +kernel
theorem dX12_look_37 : decode cX12_look 37 = .ok (.bipush 99, 2) := by decide +kernel
theorem dX12_look_39 : decode cX12_look 39 = .ok (.if_icmp .gt 30, 3) := by decide +kernel
theorem dX12_look_42 : decode cX12_look 42 = .ok (.aload_n 0, 1) := by decide +kernel
theorem dX12_look_43 : decode cX12_look 43 = .ok (.iload_n 3, 1) := by decide +kernel
theorem dX12_look_44 : decode cX12_look 44 = .ok (.iload 5, 2) := by decide +kernel
theorem dX12_look_46 : decode cX12_look 46 = .ok (.invokevirtual 397, 3) := by decide +kernel
theorem dX12_look_49 : decode cX12_look 49 = .ok (.aload_n 0, 1) := by decide +kernel
theorem dX12_look_50 : decode cX12_look 50 = .ok (.iload_n 3, 1) := by decide +kernel
theorem dX12_look_51 : decode cX12_look 51 = .ok (.iload 4, 2) := by decide +kernel
theorem dX12_look_53 : decode cX12_look 53 = .ok (.invokevirtual 397, 3) := by decide +kernel
theorem dX12_look_56 : decode cX12_look 56 = .ok (.if_icmp .ge 7, 3) := by decide +kernel
theorem dX12_look_59 : decode cX12_look 59 = .ok (.iload 5, 2) := by decide +kernel
theorem dX12_look_61 : decode cX12_look 61 = .ok (.istore 4, 2) := by decide +kernel
theorem dX12_look_63 : decode cX12_look 63 = .ok (.iinc 5 1, 3) := by decide +kernel
theorem dX12_look_66 : decode cX12_look 66 = .ok (.goto (-31), 3) := by decide +kernel
theorem dX12_look_69 : decode cX12_look 69 = .ok (.iload 4, 2) := by decide +kernel
theorem dX12_look_71 : decode cX12_look 71 = .ok (.ireturn, 1) := by decide +kernel
theorem dX12_unlikeOf_0 : decode cX12_unlikeOf 0 = .ok (.iconst 0, 1) := by decide +kernel
theorem dX12_unlikeOf_1 : decode cX12_unlikeOf 1 = .ok (.istore_n 3, 1) := by decide +kernel
theorem dX12_unlikeOf_2 : decode cX12_unlikeOf 2 = .ok (.iconst 0, 1) := by decide +kernel
theorem dX12_unlikeOf_3 : decode cX12_unlikeOf 3 = .ok (.istore 4, 2) := by decide +kernel
theorem dX12_unlikeOf_5 : decode cX12_unlikeOf 5 = .ok (.iload 4, 2) := by decide +kernel
theorem dX12_unlikeOf_7 : decode cX12_unlikeOf 7 = .ok (.bipush 24, 2) := by decide +kernel
theorem dX12_unlikeOf_9 : decode cX12_unlikeOf 9 = .ok (.if_icmp .ge 34, 3) := by decide +kernel
theorem dX12_unlikeOf_12 : decode cX12_unlikeOf 12 = .ok (.iload_n 3, 1) := by decide +kernel
theorem dX12_unlikeOf_13 : decode cX12_unlikeOf 13 = .ok (.aload_n 0, 1) := by decide +kernel
theorem dX12_unlikeOf_14 : decode cX12_unlikeOf 14 = .ok (.iload_n 1, 1) := by decide +kernel
theorem dX12_unlikeOf_15 : decode cX12_unlikeOf 15 = .ok (.iload 4, 2) := by decide +kernel
theorem dX12_unlikeOf_17 : decode cX12_unlikeOf 17 = .ok (.invokevirtual 249, 3) := by decide +kernel
theorem dX12_unlikeOf_20 : decode cX12_unlikeOf 20 = .ok (.aload_n 0, 1) := by decide +kernel
theorem dX12_unlikeOf_21 : decode cX12_unlikeOf 21 = .ok (.iload_n 2, 1) := by decide +kernel
theorem dX12_unlikeOf_22 : decode cX12_unlikeOf 22 = .ok (.iload 4, 2) := by decide +kernel
theorem dX12_unlikeOf_24 : decode cX12_unlikeOf 24 = .ok (.invokevirtual 249, 3) := by decide +kernel
theorem dX12_unlikeOf_27 : decode cX12_unlikeOf 27 = .ok (.if_icmp .ne 7, 3) := by decide +kernel
theorem dX12_unlikeOf_30 : decode cX12_unlikeOf 30 = .ok (.iconst 0, 1) := by decide +kernel
theorem dX12_unlikeOf_31 : decode cX12_unlikeOf 31 = .ok (.goto 4, 3) := by decide +kernel
theorem dX12_unlikeOf_34 : decode cX12_unlikeOf 34 = .ok (.iconst 1, 1) := by decide +kernel
theorem dX12_unlikeOf_35 : decode cX12_unlikeOf 35 = .ok (.iadd, 1) := by decide +kernel
theorem dX12_unlikeOf_36 : decode cX12_unlikeOf 36 = .ok (.istore_n 3, 1) := by decide +kernel
theorem dX12_unlikeOf_37 : decode cX12_unlikeOf 37 = .ok (.iinc 4 1, 3) := by decide +kernel
theorem dX12_unlikeOf_40 : decode cX12_unlikeOf 40 = .ok (.goto (-35), 3) := by decide +kernel
theorem dX12_unlikeOf_43 : decode cX12_unlikeOf 43 = .ok (.iload_n 3, 1) := by decide +kernel
theorem dX12_unlikeOf_44 : decode cX12_unlikeOf 44 = .ok (.ireturn, 1) := by decide +kernel
theorem dX12_unlike_0 : decode cX12_unlike 0 = .ok (.aload_n 0, 1) := by decide +kernel
theorem dX12_unlike_1 : decode cX12_unlike 1 = .ok (.iconst 0, 1) := by decide +kernel
theorem dX12_unlike_2 : decode cX12_unlike 2 = .ok (.putfield 1, 3) := by decide +kernel
theorem dX12_unlike_5 : decode cX12_unlike 5 = .ok (.aload_n 0, 1) := by decide +kernel
theorem dX12_unlike_6 : decode cX12_unlike 6 = .ok (.iload_n 1, 1) := by decide +kernel
theorem dX12_unlike_7 : decode cX12_unlike 7 = .ok (.i2l, 1) := by decide +kernel
theorem dX12_unlike_8 : decode cX12_unlike 8 = .ok (.invokevirtual 244, 3) := by decide +kernel
theorem dX12_unlike_11 : decode cX12_unlike 11 = .ok (.ifCond .eq 21, 3) := by decide +kernel
theorem dX12_unlike_14 : decode cX12_unlike 14 = .ok (.aload_n 0, 1) := by decide +kernel
theorem dX12_unlike_15 : decode cX12_unlike 15 = .ok (.iload_n 2, 1) := by decide +kernel
theorem dX12_unlike_16 : decode cX12_unlike 16 = .ok (.i2l, 1) := by decide +kernel
theorem dX12_unlike_17 : decode cX12_unlike 17 = .ok (.invokevirtual 244, 3) := by decide +kernel
theorem dX12_unlike_20 : decode cX12_unlike 20 = .ok (.ifCond .eq 12, 3) := by decide +kernel
theorem dX12_unlike_23 : decode cX12_unlike 23 = .ok (.aload_n 0, 1) := by decide +kernel
theorem dX12_unlike_24 : decode cX12_unlike 24 = .ok (.iload_n 1, 1) := by decide +kernel
theorem dX12_unlike_25 : decode cX12_unlike 25 = .ok (.iload_n 2, 1) := by decide +kernel
theorem dX12_unlike_26 : decode cX12_unlike 26 = .ok (.invokevirtual 400, 3) := by decide +kernel
theorem dX12_unlike_29 : decode cX12_unlike 29 = .ok (.goto 5, 3) := by decide +kernel
theorem dX12_unlike_32 : decode cX12_unlike 32 = .ok (.bipush (-2), 2) := by decide +kernel
theorem dX12_unlike_34 : decode cX12_unlike 34 = .ok (.ireturn, 1) := by decide +kernel
theorem dX12_goesPairs_0 : decode cX12_goesPairs 0 = .ok (.iconst 0, 1) := by decide +kernel
theorem dX12_goesPairs_1 : decode cX12_goesPairs 1 = .ok (.istore 4, 2) := by decide +kernel
theorem dX12_goesPairs_3 : decode cX12_goesPairs 3 = .ok (.iload 4, 2) := by decide +kernel
theorem dX12_goesPairs_5 : decode cX12_goesPairs 5 = .ok (.aload_n 0, 1) := by decide +kernel
theorem dX12_goesPairs_6 : decode cX12_goesPairs 6 = .ok (.getfield 13, 3) := by decide +kernel
theorem dX12_goesPairs_9 : decode cX12_goesPairs 9 = .ok (.iconst 4, 1) := by decide +kernel
theorem dX12_goesPairs_10 : decode cX12_goesPairs 10 = .ok (.iaload, 1) := by decide +kernel
theorem dX12_goesPairs_11 : decode cX12_goesPairs 11 = .ok (.if_icmp .ge 19, 3) := by decide +kernel
theorem dX12_goesPairs_14 : decode cX12_goesPairs 14 = .ok (.iload_n 1, 1) := by decide +kernel
theorem dX12_goesPairs_15 : decode cX12_goesPairs 15 = .ok (.i2l, 1) := by decide +kernel
theorem dX12_goesPairs_16 : decode cX12_goesPairs 16 = .ok (.iload 4, 2) := by decide +kernel
theorem dX12_goesPairs_18 : decode cX12_goesPairs 18 = .ok (.invokestatic 213, 3) := by decide +kernel
theorem dX12_goesPairs_21 : decode cX12_goesPairs 21 = .ok (.ifCond .eq 9, 3) := by decide +kernel
theorem dX12_goesPairs_24 : decode cX12_goesPairs 24 = .ok (.iinc 4 1, 3) := by decide +kernel
theorem dX12_goesPairs_27 : decode cX12_goesPairs 27 = .ok (.goto (-24), 3) := by decide +kernel
theorem dX12_goesPairs_30 : decode cX12_goesPairs 30 = .ok (.iload 4, 2) := by decide +kernel
theorem dX12_goesPairs_32 : decode cX12_goesPairs 32 = .ok (.aload_n 0, 1) := by decide +kernel
theorem dX12_goesPairs_33 : decode cX12_goesPairs 33 = .ok (.getfield 13, 3) := by decide +kernel
theorem dX12_goesPairs_36 : decode cX12_goesPairs 36 = .ok (.iconst 4, 1) := by decide +kernel
theorem dX12_goesPairs_37 : decode cX12_goesPairs 37 = .ok (.iaload, 1) := by decide +kernel
theorem dX12_goesPairs_38 : decode cX12_goesPairs 38 = .ok (.if_icmp .ne 56, 3) := by decide +kernel
theorem dX12_goesPairs_41 : decode cX12_goesPairs 41 = .ok (.aload_n 0, 1) := by decide +kernel
theorem dX12_goesPairs_42 : decode cX12_goesPairs 42 = .ok (.getfield 403, 3) := by decide +kernel
theorem dX12_goesPairs_45 : decode cX12_goesPairs 45 = .ok (.iconst (-1), 1) := by decide +kernel
theorem dX12_goesPairs_46 : decode cX12_goesPairs 46 = .ok (.if_icmp .eq 12, 3) := by decide +kernel
theorem dX12_goesPairs_49 : decode cX12_goesPairs 49 = .ok (.iload_n 3, 1) := by decide +kernel
theorem dX12_goesPairs_50 : decode cX12_goesPairs 50 = .ok (.aload_n 0, 1) := by decide +kernel
theorem dX12_goesPairs_51 : decode cX12_goesPairs 51 = .ok (.getfield 403, 3) := by decide +kernel
theorem dX12_goesPairs_54 : decode cX12_goesPairs 54 = .ok (.if_icmp .lt 4, 3) := by decide +kernel
theorem dX12_goesPairs_57 : decode cX12_goesPairs 57 = .ok (.return_, 1) := by decide +kernel
theorem dX12_goesPairs_58 : decode cX12_goesPairs 58 = .ok (.aload_n 0, 1) := by decide +kernel
theorem dX12_goesPairs_59 : decode cX12_goesPairs 59 = .ok (.iload_n 3, 1) := by decide +kernel
theorem dX12_goesPairs_60 : decode cX12_goesPairs 60 = .ok (.putfield 403, 3) := by decide +kernel
theorem dX12_goesPairs_63 : decode cX12_goesPairs 63 = .ok (.iconst 0, 1) := by decide +kernel
theorem dX12_goesPairs_64 : decode cX12_goesPairs 64 = .ok (.istore 5, 2) := by decide +kernel
theorem dX12_goesPairs_66 : decode cX12_goesPairs 66 = .ok (.iload 5, 2) := by decide +kernel
theorem dX12_goesPairs_68 : decode cX12_goesPairs 68 = .ok (.bipush 8, 2) := by decide +kernel
theorem dX12_goesPairs_70 : decode cX12_goesPairs 70 = .ok (.if_icmp .ge 23, 3) := by decide +kernel
theorem dX12_goesPairs_73 : decode cX12_goesPairs 73 = .ok (.aload_n 0, 1) := by decide +kernel
theorem dX12_goesPairs_74 : decode cX12_goesPairs 74 = .ok (.getfield 48, 3) := by decide +kernel
theorem dX12_goesPairs_77 : decode cX12_goesPairs 77 = .ok (.iload 5, 2) := by decide +kernel
theorem dX12_goesPairs_79 : decode cX12_goesPairs 79 = .ok (.aload_n 0, 1) := by decide +kernel
theorem dX12_goesPairs_80 : decode cX12_goesPairs 80 = .ok (.getfield 45, 3) := by decide +kernel
theorem dX12_goesPairs_83 : decode cX12_goesPairs 83 = .ok (.iload 5, 2) := by decide +kernel
theorem dX12_goesPairs_85 : decode cX12_goesPairs 85 = .ok (.iaload, 1) := by decide +kernel
theorem dX12_goesPairs_86 : decode cX12_goesPairs 86 = .ok (.iastore, 1) := by decide +kernel
theorem dX12_goesPairs_87 : decode cX12_goesPairs 87 = .ok (.iinc 5 1, 3) := by decide +kernel
theorem dX12_goesPairs_90 : decode cX12_goesPairs 90 = .ok (.goto (-24), 3) := by decide +kernel
theorem dX12_goesPairs_93 : decode cX12_goesPairs 93 = .ok (.return_, 1) := by decide +kernel
theorem dX12_goesPairs_94 : decode cX12_goesPairs 94 = .ok (.iload 4, 2) := by decide +kernel
theorem dX12_goesPairs_96 : decode cX12_goesPairs 96 = .ok (.iconst 1, 1) := by decide +kernel
theorem dX12_goesPairs_97 : decode cX12_goesPairs 97 = .ok (.iadd, 1) := by decide +kernel
theorem dX12_goesPairs_98 : decode cX12_goesPairs 98 = .ok (.istore 5, 2) := by decide +kernel
theorem dX12_goesPairs_100 : decode cX12_goesPairs 100 = .ok (.iload 5, 2) := by decide +kernel
theorem dX12_goesPairs_102 : decode cX12_goesPairs 102 = .ok (.aload_n 0, 1) := by decide +kernel
theorem dX12_goesPairs_103 : decode cX12_goesPairs 103 = .ok (.getfield 13, 3) := by decide +kernel
theorem dX12_goesPairs_106 : decode cX12_goesPairs 106 = .ok (.iconst 4, 1) := by decide +kernel
theorem dX12_goesPairs_107 : decode cX12_goesPairs 107 = .ok (.iaload, 1) := by decide +kernel
theorem dX12_goesPairs_108 : decode cX12_goesPairs 108 = .ok (.if_icmp .ge 71, 3) := by decide +kernel
theorem dX12_goesPairs_111 : decode cX12_goesPairs 111 = .ok (.iload_n 1, 1) := by decide +kernel
theorem dX12_goesPairs_112 : decode cX12_goesPairs 112 = .ok (.i2l, 1) := by decide +kernel
theorem dX12_goesPairs_113 : decode cX12_goesPairs 113 = .ok (.iload 5, 2) := by decide +kernel
theorem dX12_goesPairs_115 : decode cX12_goesPairs 115 = .ok (.invokestatic 213, 3) := by decide +kernel
theorem dX12_goesPairs_118 : decode cX12_goesPairs 118 = .ok (.ifCond .eq 6, 3) := by decide +kernel
theorem dX12_goesPairs_121 : decode cX12_goesPairs 121 = .ok (.goto 52, 3) := by decide +kernel
theorem dX12_goesPairs_124 : decode cX12_goesPairs 124 = .ok (.aload_n 0, 1) := by decide +kernel
theorem dX12_goesPairs_125 : decode cX12_goesPairs 125 = .ok (.getfield 45, 3) := by decide +kernel
theorem dX12_goesPairs_128 : decode cX12_goesPairs 128 = .ok (.iload 4, 2) := by decide +kernel
theorem dX12_goesPairs_130 : decode cX12_goesPairs 130 = .ok (.iload 5, 2) := by decide +kernel
theorem dX12_goesPairs_132 : decode cX12_goesPairs 132 = .ok (.iastore, 1) := by decide +kernel
theorem dX12_goesPairs_133 : decode cX12_goesPairs 133 = .ok (.aload_n 0, 1) := by decide +kernel
theorem dX12_goesPairs_134 : decode cX12_goesPairs 134 = .ok (.getfield 45, 3) := by decide +kernel
theorem dX12_goesPairs_137 : decode cX12_goesPairs 137 = .ok (.iload 5, 2) := by decide +kernel
theorem dX12_goesPairs_139 : decode cX12_goesPairs 139 = .ok (.iload 4, 2) := by decide +kernel
theorem dX12_goesPairs_141 : decode cX12_goesPairs 141 = .ok (.iastore, 1) := by decide +kernel
theorem dX12_goesPairs_142 : decode cX12_goesPairs 142 = .ok (.aload_n 0, 1) := by decide +kernel
theorem dX12_goesPairs_143 : decode cX12_goesPairs 143 = .ok (.iload_n 1, 1) := by decide +kernel
theorem dX12_goesPairs_144 : decode cX12_goesPairs 144 = .ok (.iconst 1, 1) := by decide +kernel
theorem dX12_goesPairs_145 : decode cX12_goesPairs 145 = .ok (.iload 4, 2) := by decide +kernel
theorem dX12_goesPairs_147 : decode cX12_goesPairs 147 = .ok (.ishl, 1) := by decide +kernel
theorem dX12_goesPairs_148 : decode cX12_goesPairs 148 = .ok (.ior, 1) := by decide +kernel
theorem dX12_goesPairs_149 : decode cX12_goesPairs 149 = .ok (.iconst 1, 1) := by decide +kernel
theorem dX12_goesPairs_150 : decode cX12_goesPairs 150 = .ok (.iload 5, 2) := by decide +kernel
theorem dX12_goesPairs_152 : decode cX12_goesPairs 152 = .ok (.ishl, 1) := by decide +kernel
theorem dX12_goesPairs_153 : decode cX12_goesPairs 153 = .ok (.ior, 1) := by decide +kernel
theorem dX12_goesPairs_154 : decode cX12_goesPairs 154 = .ok (.iload_n 2, 1) := by decide +kernel
theorem dX12_goesPairs_155 : decode cX12_goesPairs 155 = .ok (.iload_n 3, 1) := by decide +kernel
theorem dX12_goesPairs_156 : decode cX12_goesPairs 156 = .ok (.aload_n 0, 1) := by decide +kernel
theorem dX12_goesPairs_157 : decode cX12_goesPairs 157 = .ok (.getfield 51, 3) := by decide +kernel
theorem dX12_goesPairs_160 : decode cX12_goesPairs 160 = .ok (.bipush 8, 2) := by decide +kernel
theorem dX12_goesPairs_162 : decode cX12_goesPairs 162 = .ok (.iload 4, 2) := by decide +kernel
theorem dX12_goesPairs_164 : decode cX12_goesPairs 164 = .ok (.imul, 1) := by decide +kernel
theorem dX12_goesPairs_165 : decode cX12_goesPairs 165 = .ok (.iload 5, 2) := by decide +kernel
theorem dX12_goesPairs_167 : decode cX12_goesPairs 167 = .ok (.iadd, 1) := by decide +kernel
theorem dX12_goesPairs_168 : decode cX12_goesPairs 168 = .ok (.iaload, 1) := by decide +kernel
theorem dX12_goesPairs_169 : decode cX12_goesPairs 169 = .ok (.iadd, 1) := by decide +kernel
theorem dX12_goesPairs_170 : decode cX12_goesPairs 170 = .ok (.invokevirtual 406, 3) := by decide +kernel
theorem dX12_goesPairs_173 : decode cX12_goesPairs 173 = .ok (.iinc 5 1, 3) := by decide +kernel
theorem dX12_goesPairs_176 : decode cX12_goesPairs 176 = .ok (.goto (-76), 3) := by decide +kernel
theorem dX12_goesPairs_179 : decode cX12_goesPairs 179 = .ok (.iload_n 2, 1) := by decide +kernel
theorem dX12_goesPairs_180 : decode cX12_goesPairs 180 = .ok (.ifCond .ne 4, 3) := by decide +kernel
theorem dX12_goesPairs_183 : decode cX12_goesPairs 183 = .ok (.return_, 1) := by decide +kernel
theorem dX12_goesPairs_184 : decode cX12_goesPairs 184 = .ok (.aload_n 0, 1) := by decide +kernel
theorem dX12_goesPairs_185 : decode cX12_goesPairs 185 = .ok (.getfield 45, 3) := by decide +kernel
theorem dX12_goesPairs_188 : decode cX12_goesPairs 188 = .ok (.iload 4, 2) := by decide +kernel
theorem dX12_goesPairs_190 : decode cX12_goesPairs 190 = .ok (.iconst (-1), 1) := by decide +kernel
theorem dX12_goesPairs_191 : decode cX12_goesPairs 191 = .ok (.iastore, 1) := by decide +kernel
theorem dX12_goesPairs_192 : decode cX12_goesPairs 192 = .ok (.aload_n 0, 1) := by decide +kernel
theorem dX12_goesPairs_193 : decode cX12_goesPairs 193 = .ok (.iload_n 1, 1) := by decide +kernel
theorem dX12_goesPairs_194 : decode cX12_goesPairs 194 = .ok (.iconst 1, 1) := by decide +kernel
theorem dX12_goesPairs_195 : decode cX12_goesPairs 195 = .ok (.iload 4, 2) := by decide +kernel
theorem dX12_goesPairs_197 : decode cX12_goesPairs 197 = .ok (.ishl, 1) := by decide +kernel
theorem dX12_goesPairs_198 : decode cX12_goesPairs 198 = .ok (.ior, 1) := by decide +kernel
theorem dX12_goesPairs_199 : decode cX12_goesPairs 199 = .ok (.iconst 0, 1) := by decide +kernel
theorem dX12_goesPairs_200 : decode cX12_goesPairs 200 = .ok (.iload_n 3, 1) := by decide +kernel
theorem dX12_goesPairs_201 : decode cX12_goesPairs 201 = .ok (.invokevirtual 406, 3) := by decide +kernel
theorem dX12_goesPairs_204 : decode cX12_goesPairs 204 = .ok (.return_, 1) := by decide +kernel
theorem dX12_pairs_0 : decode cX12_pairs 0 = .ok (.aload_n 0, 1) := by decide +kernel
theorem dX12_pairs_1 : decode cX12_pairs 1 = .ok (.iconst 0, 1) := by decide +kernel
theorem dX12_pairs_2 : decode cX12_pairs 2 = .ok (.putfield 1, 3) := by decide +kernel
theorem dX12_pairs_5 : decode cX12_pairs 5 = .ok (.iload_n 1, 1) := by decide +kernel
theorem dX12_pairs_6 : decode cX12_pairs 6 = .ok (.ifCond .eq 27, 3) := by decide +kernel
theorem dX12_pairs_9 : decode cX12_pairs 9 = .ok (.iload_n 1, 1) := by decide +kernel
theorem dX12_pairs_10 : decode cX12_pairs 10 = .ok (.i2l, 1) := by decide +kernel
theorem dX12_pairs_11 : decode cX12_pairs 11 = .ok (.ldc2_w 182, 3) := by decide +kernel
theorem dX12_pairs_14 : decode cX12_pairs 14 = .ok (.bipush 9, 2) := by decide +kernel
theorem dX12_pairs_16 : decode cX12_pairs 16 = .ok (.aload_n 0, 1) := by decide +kernel
theorem dX12_pairs_17 : decode cX12_pairs 17 = .ok (.getfield 13, 3) := by decide +kernel
theorem dX12_pairs_20 : decode cX12_pairs 20 = .ok (.iconst 4, 1) := by decide +kernel
theorem dX12_pairs_21 : decode cX12_pairs 21 = .ok (.iaload, 1) := by decide +kernel
theorem dX12_pairs_22 : decode cX12_pairs 22 = .ok (.iadd, 1) := by decide +kernel
theorem dX12_pairs_23 : decode cX12_pairs 23 = .ok (.i2l, 1) := by decide +kernel
theorem dX12_pairs_24 : decode cX12_pairs 24 = .ok (.invokestatic 130, 3) := by decide +kernel
theorem dX12_pairs_27 : decode cX12_pairs 27 = .ok (.ifCond .ne 6, 3) := by decide +kernel
theorem dX12_pairs_30 : decode cX12_pairs 30 = .ok (.bipush (-2), 2) := by decide +kernel
theorem dX12_pairs_32 : decode cX12_pairs 32 = .ok (.ireturn, 1) := by decide +kernel
theorem dX12_pairs_33 : decode cX12_pairs 33 = .ok (.iconst 0, 1) := by decide +kernel
theorem dX12_pairs_34 : decode cX12_pairs 34 = .ok (.istore_n 2, 1) := by decide +kernel
theorem dX12_pairs_35 : decode cX12_pairs 35 = .ok (.iload_n 2, 1) := by decide +kernel
theorem dX12_pairs_36 : decode cX12_pairs 36 = .ok (.aload_n 0, 1) := by decide +kernel
theorem dX12_pairs_37 : decode cX12_pairs 37 = .ok (.getfield 13, 3) := by decide +kernel
theorem dX12_pairs_40 : decode cX12_pairs 40 = .ok (.iconst 4, 1) := by decide +kernel
theorem dX12_pairs_41 : decode cX12_pairs 41 = .ok (.iaload, 1) := by decide +kernel
theorem dX12_pairs_42 : decode cX12_pairs 42 = .ok (.if_icmp .ge 60, 3) := by decide +kernel
theorem dX12_pairs_45 : decode cX12_pairs 45 = .ok (.iconst 0, 1) := by decide +kernel
theorem dX12_pairs_46 : decode cX12_pairs 46 = .ok (.istore_n 3, 1) := by decide +kernel
theorem dX12_pairs_47 : decode cX12_pairs 47 = .ok (.iload_n 3, 1) := by decide +kernel
theorem dX12_pairs_48 : decode cX12_pairs 48 = .ok (.aload_n 0, 1) := by decide +kernel
theorem dX12_pairs_49 : decode cX12_pairs 49 = .ok (.getfield 13, 3) := by decide +kernel
theorem dX12_pairs_52 : decode cX12_pairs 52 = .ok (.iconst 4, 1) := by decide +kernel
theorem dX12_pairs_53 : decode cX12_pairs 53 = .ok (.iaload, 1) := by decide +kernel
theorem dX12_pairs_54 : decode cX12_pairs 54 = .ok (.if_icmp .ge 42, 3) := by decide +kernel
theorem dX12_pairs_57 : decode cX12_pairs 57 = .ok (.aload_n 0, 1) := by decide +kernel
theorem dX12_pairs_58 : decode cX12_pairs 58 = .ok (.getfield 51, 3) := by decide +kernel
theorem dX12_pairs_61 : decode cX12_pairs 61 = .ok (.bipush 8, 2) := by decide +kernel
theorem dX12_pairs_63 : decode cX12_pairs 63 = .ok (.iload_n 2, 1) := by decide +kernel
theorem dX12_pairs_64 : decode cX12_pairs 64 = .ok (.imul, 1) := by decide +kernel
theorem dX12_pairs_65 : decode cX12_pairs 65 = .ok (.iload_n 3, 1) := by decide +kernel
theorem dX12_pairs_66 : decode cX12_pairs 66 = .ok (.iadd, 1) := by decide +kernel
theorem dX12_pairs_67 : decode cX12_pairs 67 = .ok (.aload_n 0, 1) := by decide +kernel
theorem dX12_pairs_68 : decode cX12_pairs 68 = .ok (.aload_n 0, 1) := by decide +kernel
theorem dX12_pairs_69 : decode cX12_pairs 69 = .ok (.getfield 13, 3) := by decide +kernel
theorem dX12_pairs_72 : decode cX12_pairs 72 = .ok (.bipush 56, 2) := by decide +kernel
theorem dX12_pairs_74 : decode cX12_pairs 74 = .ok (.iload_n 2, 1) := by decide +kernel
theorem dX12_pairs_75 : decode cX12_pairs 75 = .ok (.iadd, 1) := by decide +kernel
theorem dX12_pairs_76 : decode cX12_pairs 76 = .ok (.iaload, 1) := by decide +kernel
theorem dX12_pairs_77 : decode cX12_pairs 77 = .ok (.aload_n 0, 1) := by decide +kernel
theorem dX12_pairs_78 : decode cX12_pairs 78 = .ok (.getfield 13, 3) := by decide +kernel
theorem dX12_pairs_81 : decode cX12_pairs 81 = .ok (.bipush 56, 2) := by decide +kernel
theorem dX12_pairs_83 : decode cX12_pairs 83 = .ok (.iload_n 3, 1) := by decide +kernel
theorem dX12_pairs_84 : decode cX12_pairs 84 = .ok (.iadd, 1) := by decide +kernel
theorem dX12_pairs_85 : decode cX12_pairs 85 = .ok (.iaload, 1) := by decide +kernel
theorem dX12_pairs_86 : decode cX12_pairs 86 = .ok (.invokevirtual 400, 3) := by decide +kernel
theorem dX12_pairs_89 : decode cX12_pairs 89 = .ok (.iastore, 1) := by decide +kernel
theorem dX12_pairs_90 : decode cX12_pairs 90 = .ok (.iinc 3 1, 3) := by decide +kernel
theorem dX12_pairs_93 : decode cX12_pairs 93 = .ok (.goto (-46), 3) := by decide +kernel
theorem dX12_pairs_96 : decode cX12_pairs 96 = .ok (.iinc 2 1, 3) := by decide +kernel
theorem dX12_pairs_99 : decode cX12_pairs 99 = .ok (.goto (-64), 3) := by decide +kernel
theorem dX12_pairs_102 : decode cX12_pairs 102 = .ok (.aload_n 0, 1) := by decide +kernel
theorem dX12_pairs_103 : decode cX12_pairs 103 = .ok (.iconst (-1), 1) := by decide +kernel
theorem dX12_pairs_104 : decode cX12_pairs 104 = .ok (.putfield 403, 3) := by decide +kernel
theorem dX12_pairs_107 : decode cX12_pairs 107 = .ok (.aload_n 0, 1) := by decide +kernel
theorem dX12_pairs_108 : decode cX12_pairs 108 = .ok (.iconst 0, 1) := by decide +kernel
theorem dX12_pairs_109 : decode cX12_pairs 109 = .ok (.aload_n 0, 1) := by decide +kernel
theorem dX12_pairs_110 : decode cX12_pairs 110 = .ok (.getfield 13, 3) := by decide +kernel
theorem dX12_pairs_113 : decode cX12_pairs 113 = .ok (.iconst 4, 1) := by decide +kernel
theorem dX12_pairs_114 : decode cX12_pairs 114 = .ok (.iaload, 1) := by decide +kernel
theorem dX12_pairs_115 : decode cX12_pairs 115 = .ok (.iconst 2, 1) := by decide +kernel
theorem dX12_pairs_116 : decode cX12_pairs 116 = .ok (.irem, 1) := by decide +kernel
theorem dX12_pairs_117 : decode cX12_pairs 117 = .ok (.iconst 1, 1) := by decide +kernel
theorem dX12_pairs_118 : decode cX12_pairs 118 = .ok (.if_icmp .ne 7, 3) := by decide +kernel
theorem dX12_pairs_121 : decode cX12_pairs 121 = .ok (.iconst 1, 1) := by decide +kernel
theorem dX12_pairs_122 : decode cX12_pairs 122 = .ok (.goto 4, 3) := by decide +kernel
theorem dX12_pairs_125 : decode cX12_pairs 125 = .ok (.iconst 0, 1) := by decide +kernel
theorem dX12_pairs_126 : decode cX12_pairs 126 = .ok (.iconst 0, 1) := by decide +kernel
theorem dX12_pairs_127 : decode cX12_pairs 127 = .ok (.invokevirtual 406, 3) := by decide +kernel
theorem dX12_pairs_130 : decode cX12_pairs 130 = .ok (.iload_n 1, 1) := by decide +kernel
theorem dX12_pairs_131 : decode cX12_pairs 131 = .ok (.ifCond .ne 10, 3) := by decide +kernel
theorem dX12_pairs_134 : decode cX12_pairs 134 = .ok (.aload_n 0, 1) := by decide +kernel
theorem dX12_pairs_135 : decode cX12_pairs 135 = .ok (.getfield 403, 3) := by decide +kernel
theorem dX12_pairs_138 : decode cX12_pairs 138 = .ok (.goto 12, 3) := by decide +kernel
theorem dX12_pairs_141 : decode cX12_pairs 141 = .ok (.aload_n 0, 1) := by decide +kernel
theorem dX12_pairs_142 : decode cX12_pairs 142 = .ok (.getfield 48, 3) := by decide +kernel
theorem dX12_pairs_145 : decode cX12_pairs 145 = .ok (.iload_n 1, 1) := by decide +kernel
theorem dX12_pairs_146 : decode cX12_pairs 146 = .ok (.bipush 10, 2) := by decide +kernel
theorem dX12_pairs_148 : decode cX12_pairs 148 = .ok (.isub, 1) := by decide +kernel
theorem dX12_pairs_149 : decode cX12_pairs 149 = .ok (.iaload, 1) := by decide +kernel
theorem dX12_pairs_150 : decode cX12_pairs 150 = .ok (.ireturn, 1) := by decide +kernel
theorem dX12_cut_0 : decode cX12_cut 0 = .ok (.iload_n 2, 1) := by decide +kernel
theorem dX12_cut_1 : decode cX12_cut 1 = .ok (.ifCond .ne 10, 3) := by decide +kernel
theorem dX12_cut_4 : decode cX12_cut 4 = .ok (.lload_n 0, 1) := by decide +kernel
theorem dX12_cut_5 : decode cX12_cut 5 = .ok (.l2i, 1) := by decide +kernel
theorem dX12_cut_6 : decode cX12_cut 6 = .ok (.i2b, 1) := by decide +kernel
theorem dX12_cut_7 : decode cX12_cut 7 = .ok (.i2l, 1) := by decide +kernel
theorem dX12_cut_8 : decode cX12_cut 8 = .ok (.goto 27, 3) := by decide +kernel
theorem dX12_cut_11 : decode cX12_cut 11 = .ok (.iload_n 2, 1) := by decide +kernel
theorem dX12_cut_12 : decode cX12_cut 12 = .ok (.iconst 1, 1) := by decide +kernel
theorem dX12_cut_13 : decode cX12_cut 13 = .ok (.if_icmp .ne 10, 3) := by decide +kernel
theorem dX12_cut_16 : decode cX12_cut 16 = .ok (.lload_n 0, 1) := by decide +kernel
theorem dX12_cut_17 : decode cX12_cut 17 = .ok (.l2i, 1) := by decide +kernel
theorem dX12_cut_18 : decode cX12_cut 18 = .ok (.i2s, 1) := by decide +kernel
theorem dX12_cut_19 : decode cX12_cut 19 = .ok (.i2l, 1) := by decide +kernel
theorem dX12_cut_20 : decode cX12_cut 20 = .ok (.goto 15, 3) := by decide +kernel
theorem dX12_cut_23 : decode cX12_cut 23 = .ok (.iload_n 2, 1) := by decide +kernel
theorem dX12_cut_24 : decode cX12_cut 24 = .ok (.iconst 2, 1) := by decide +kernel
theorem dX12_cut_25 : decode cX12_cut 25 = .ok (.if_icmp .ne 9, 3) := by decide +kernel
theorem dX12_cut_28 : decode cX12_cut 28 = .ok (.lload_n 0, 1) := by decide +kernel
theorem dX12_cut_29 : decode cX12_cut 29 = .ok (.l2i, 1) := by decide +kernel
theorem dX12_cut_30 : decode cX12_cut 30 = .ok (.i2l, 1) := by decide +kernel
theorem dX12_cut_31 : decode cX12_cut 31 = .ok (.goto 4, 3) := by decide +kernel
theorem dX12_cut_34 : decode cX12_cut 34 = .ok (.lload_n 0, 1) := by decide +kernel
theorem dX12_cut_35 : decode cX12_cut 35 = .ok (.lreturn, 1) := by decide +kernel
theorem dX12_numbers_0 : decode cX12_numbers 0 = .ok (.aload_n 0, 1) := by decide +kernel
theorem dX12_numbers_1 : decode cX12_numbers 1 = .ok (.iconst 0, 1) := by decide +kernel
theorem dX12_numbers_2 : decode cX12_numbers 2 = .ok (.putfield 1, 3) := by decide +kernel
theorem dX12_numbers_5 : decode cX12_numbers 5 = .ok (.iload_n 1, 1) := by decide +kernel
theorem dX12_numbers_6 : decode cX12_numbers 6 = .ok (.i2l, 1) := by decide +kernel
theorem dX12_numbers_7 : decode cX12_numbers 7 = .ok (.lconst 0, 1) := by decide +kernel
theorem dX12_numbers_8 : decode cX12_numbers 8 = .ok (.ldc2_w 313, 3) := by decide +kernel
theorem dX12_numbers_11 : decode cX12_numbers 11 = .ok (.invokestatic 130, 3) := by decide +kernel
theorem dX12_numbers_14 : decode cX12_numbers 14 = .ok (.ifCond .eq 15, 3) := by decide +kernel
theorem dX12_numbers_17 : decode cX12_numbers 17 = .ok (.iload_n 2, 1) := by decide +kernel
theorem dX12_numbers_18 : decode cX12_numbers 18 = .ok (.i2l, 1) := by decide +kernel
theorem dX12_numbers_19 : decode cX12_numbers 19 = .ok (.lconst 0, 1) := by decide +kernel
theorem dX12_numbers_20 : decode cX12_numbers 20 = .ok (.ldc2_w 313, 3) := by decide +kernel
theorem dX12_numbers_23 : decode cX12_numbers 23 = .ok (.invokestatic 130, 3) := by decide +kernel
theorem dX12_numbers_26 : decode cX12_numbers 26 = .ok (.ifCond .ne 6, 3) := by decide +kernel
theorem dX12_numbers_29 : decode cX12_numbers 29 = .ok (.bipush (-2), 2) := by decide +kernel
theorem dX12_numbers_31 : decode cX12_numbers 31 = .ok (.ireturn, 1) := by decide +kernel
theorem dX12_numbers_32 : decode cX12_numbers 32 = .ok (.iload_n 3, 1) := by decide +kernel
theorem dX12_numbers_33 : decode cX12_numbers 33 = .ok (.i2l, 1) := by decide +kernel
theorem dX12_numbers_34 : decode cX12_numbers 34 = .ok (.lconst 0, 1) := by decide +kernel
theorem dX12_numbers_35 : decode cX12_numbers 35 = .ok (.ldc2_w 410, 3) := by decide +kernel
theorem dX12_numbers_38 : decode cX12_numbers 38 = .ok (.invokestatic 130, 3) := by decide +kernel
theorem dX12_numbers_41 : decode cX12_numbers 41 = .ok (.ifCond .ne 6, 3) := by decide +kernel
theorem dX12_numbers_44 : decode cX12_numbers 44 = .ok (.bipush (-3), 2) := by decide +kernel
theorem dX12_numbers_46 : decode cX12_numbers 46 = .ok (.ireturn, 1) := by decide +kernel
theorem dX12_numbers_47 : decode cX12_numbers 47 = .ok (.aload_n 0, 1) := by decide +kernel
theorem dX12_numbers_48 : decode cX12_numbers 48 = .ok (.getfield 54, 3) := by decide +kernel
theorem dX12_numbers_51 : decode cX12_numbers 51 = .ok (.iload_n 1, 1) := by decide +kernel
theorem dX12_numbers_52 : decode cX12_numbers 52 = .ok (.iload_n 2, 1) := by decide +kernel
theorem dX12_numbers_53 : decode cX12_numbers 53 = .ok (.iastore, 1) := by decide +kernel
theorem dX12_numbers_54 : decode cX12_numbers 54 = .ok (.aload_n 0, 1) := by decide +kernel
theorem dX12_numbers_55 : decode cX12_numbers 55 = .ok (.getfield 57, 3) := by decide +kernel
theorem dX12_numbers_58 : decode cX12_numbers 58 = .ok (.iload_n 1, 1) := by decide +kernel
theorem dX12_numbers_59 : decode cX12_numbers 59 = .ok (.iload_n 3, 1) := by decide +kernel
theorem dX12_numbers_60 : decode cX12_numbers 60 = .ok (.iastore, 1) := by decide +kernel
theorem dX12_numbers_61 : decode cX12_numbers 61 = .ok (.iconst 0, 1) := by decide +kernel
theorem dX12_numbers_62 : decode cX12_numbers 62 = .ok (.istore 4, 2) := by decide +kernel
theorem dX12_numbers_64 : decode cX12_numbers 64 = .ok (.iload 4, 2) := by decide +kernel
theorem dX12_numbers_66 : decode cX12_numbers 66 = .ok (.iload_n 3, 1) := by decide +kernel
theorem dX12_numbers_67 : decode cX12_numbers 67 = .ok (.if_icmp .ge 22, 3) := by decide +kernel
theorem dX12_numbers_70 : decode cX12_numbers 70 = .ok (.aload_n 0, 1) := by decide +kernel
theorem dX12_numbers_71 : decode cX12_numbers 71 = .ok (.getfield 60, 3) := by decide +kernel
theorem dX12_numbers_74 : decode cX12_numbers 74 = .ok (.bipush 40, 2) := by decide +kernel
theorem dX12_numbers_76 : decode cX12_numbers 76 = .ok (.iload_n 1, 1) := by decide +kernel
theorem dX12_numbers_77 : decode cX12_numbers 77 = .ok (.imul, 1) := by decide +kernel
theorem dX12_numbers_78 : decode cX12_numbers 78 = .ok (.iload 4, 2) := by decide +kernel
theorem dX12_numbers_80 : decode cX12_numbers 80 = .ok (.iadd, 1) := by decide +kernel
theorem dX12_numbers_81 : decode cX12_numbers 81 = .ok (.lconst 0, 1) := by decide +kernel
theorem dX12_numbers_82 : decode cX12_numbers 82 = .ok (.lastore, 1) := by decide +kernel
theorem dX12_numbers_83 : decode cX12_numbers 83 = .ok (.iinc 4 1, 3) := by decide +kernel
theorem dX12_numbers_86 : decode cX12_numbers 86 = .ok (.goto (-22), 3) := by decide +kernel
theorem dX12_numbers_89 : decode cX12_numbers 89 = .ok (.iconst 0, 1) := by decide +kernel
theorem dX12_numbers_90 : decode cX12_numbers 90 = .ok (.ireturn, 1) := by decide +kernel
theorem dX12_write_0 : decode cX12_write 0 = .ok (.aload_n 0, 1) := by decide +kernel
theorem dX12_write_1 : decode cX12_write 1 = .ok (.iconst 0, 1) := by decide +kernel
theorem dX12_write_2 : decode cX12_write 2 = .ok (.putfield 1, 3) := by decide +kernel
theorem dX12_write_5 : decode cX12_write 5 = .ok (.aload_n 0, 1) := by decide +kernel
theorem dX12_write_6 : decode cX12_write 6 = .ok (.iload_n 1, 1) := by decide +kernel
theorem dX12_write_7 : decode cX12_write 7 = .ok (.invokevirtual 315, 3) := by decide +kernel
theorem dX12_write_10 : decode cX12_write 10 = .ok (.istore 5, 2) := by decide +kernel
theorem dX12_write_12 : decode cX12_write 12 = .ok (.iload 5, 2) := by decide +kernel
theorem dX12_write_14 : decode cX12_write 14 = .ok (.ifCond .eq 7, 3) := by decide +kernel
theorem dX12_write_17 : decode cX12_write 17 = .ok (.iload 5, 2) := by decide +kernel
theorem dX12_write_19 : decode cX12_write 19 = .ok (.i2l, 1) := by decide +kernel
theorem dX12_write_20 : decode cX12_write 20 = .ok (.lreturn, 1) := by decide +kernel
theorem dX12_write_21 : decode cX12_write 21 = .ok (.iload_n 2, 1) := by decide +kernel
theorem dX12_write_22 : decode cX12_write 22 = .ok (.i2l, 1) := by decide +kernel
theorem dX12_write_23 : decode cX12_write 23 = .ok (.lconst 0, 1) := by decide +kernel
theorem dX12_write_24 : decode cX12_write 24 = .ok (.aload_n 0, 1) := by decide +kernel
theorem dX12_write_25 : decode cX12_write 25 = .ok (.getfield 57, 3) := by decide +kernel
theorem dX12_write_28 : decode cX12_write 28 = .ok (.iload_n 1, 1) := by decide +kernel
theorem dX12_write_29 : decode cX12_write 29 = .ok (.iaload, 1) := by decide +kernel
theorem dX12_write_30 : decode cX12_write 30 = .ok (.iconst 1, 1) := by decide +kernel
theorem dX12_write_31 : decode cX12_write 31 = .ok (.isub, 1) := by decide +kernel
theorem dX12_write_32 : decode cX12_write 32 = .ok (.i2l, 1) := by decide +kernel
theorem dX12_write_33 : decode cX12_write 33 = .ok (.invokestatic 130, 3) := by decide +kernel
theorem dX12_write_36 : decode cX12_write 36 = .ok (.ifCond .ne 7, 3) := by decide +kernel
theorem dX12_write_39 : decode cX12_write 39 = .ok (.ldc2_w 412, 3) := by decide +kernel
theorem dX12_write_42 : decode cX12_write 42 = .ok (.lreturn, 1) := by decide +kernel
theorem dX12_write_43 : decode cX12_write 43 = .ok (.aload_n 0, 1) := by decide +kernel
theorem dX12_write_44 : decode cX12_write 44 = .ok (.getfield 60, 3) := by decide +kernel
theorem dX12_write_47 : decode cX12_write 47 = .ok (.bipush 40, 2) := by decide +kernel
theorem dX12_write_49 : decode cX12_write 49 = .ok (.iload_n 1, 1) := by decide +kernel
theorem dX12_write_50 : decode cX12_write 50 = .ok (.imul, 1) := by decide +kernel
theorem dX12_write_51 : decode cX12_write 51 = .ok (.iload_n 2, 1) := by decide +kernel
theorem dX12_write_52 : decode cX12_write 52 = .ok (.iadd, 1) := by decide +kernel
theorem dX12_write_53 : decode cX12_write 53 = .ok (.lload_n 3, 1) := by decide +kernel
theorem dX12_write_54 : decode cX12_write 54 = .ok (.aload_n 0, 1) := by decide +kernel
theorem dX12_write_55 : decode cX12_write 55 = .ok (.getfield 54, 3) := by decide +kernel
theorem dX12_write_58 : decode cX12_write 58 = .ok (.iload_n 1, 1) := by decide +kernel
theorem dX12_write_59 : decode cX12_write 59 = .ok (.iaload, 1) := by decide +kernel
theorem dX12_write_60 : decode cX12_write 60 = .ok (.invokestatic 414, 3) := by decide +kernel
theorem dX12_write_63 : decode cX12_write 63 = .ok (.lastore, 1) := by decide +kernel
theorem dX12_write_64 : decode cX12_write 64 = .ok (.aload_n 0, 1) := by decide +kernel
theorem dX12_write_65 : decode cX12_write 65 = .ok (.getfield 60, 3) := by decide +kernel
theorem dX12_write_68 : decode cX12_write 68 = .ok (.bipush 40, 2) := by decide +kernel
theorem dX12_write_70 : decode cX12_write 70 = .ok (.iload_n 1, 1) := by decide +kernel
theorem dX12_write_71 : decode cX12_write 71 = .ok (.imul, 1) := by decide +kernel
theorem dX12_write_72 : decode cX12_write 72 = .ok (.iload_n 2, 1) := by decide +kernel
theorem dX12_write_73 : decode cX12_write 73 = .ok (.iadd, 1) := by decide +kernel
theorem dX12_write_74 : decode cX12_write 74 = .ok (.laload, 1) := by decide +kernel
theorem dX12_write_75 : decode cX12_write 75 = .ok (.lreturn, 1) := by decide +kernel
theorem dX12_lists_0 : decode cX12_lists 0 = .ok (.aload_n 0, 1) := by decide +kernel
theorem dX12_lists_1 : decode cX12_lists 1 = .ok (.iconst 0, 1) := by decide +kernel
theorem dX12_lists_2 : decode cX12_lists 2 = .ok (.putfield 1, 3) := by decide +kernel
theorem dX12_lists_5 : decode cX12_lists 5 = .ok (.iload_n 1, 1) := by decide +kernel
theorem dX12_lists_6 : decode cX12_lists 6 = .ok (.i2l, 1) := by decide +kernel
theorem dX12_lists_7 : decode cX12_lists 7 = .ok (.lconst 0, 1) := by decide +kernel
theorem dX12_lists_8 : decode cX12_lists 8 = .ok (.ldc2_w 313, 3) := by decide +kernel
theorem dX12_lists_11 : decode cX12_lists 11 = .ok (.invokestatic 130, 3) := by decide +kernel
theorem dX12_lists_14 : decode cX12_lists 14 = .ok (.ifCond .eq 12, 3) := by decide +kernel
theorem dX12_lists_17 : decode cX12_lists 17 = .ok (.aload_n 0, 1) := by decide +kernel
theorem dX12_lists_18 : decode cX12_lists 18 = .ok (.iload_n 2, 1) := by decide +kernel
theorem dX12_lists_19 : decode cX12_lists 19 = .ok (.i2l, 1) := by decide +kernel
theorem dX12_lists_20 : decode cX12_lists 20 = .ok (.invokevirtual 236, 3) := by decide +kernel
theorem dX12_lists_23 : decode cX12_lists 23 = .ok (.ifCond .ne 6, 3) := by decide +kernel
theorem dX12_lists_26 : decode cX12_lists 26 = .ok (.bipush (-2), 2) := by decide +kernel
theorem dX12_lists_28 : decode cX12_lists 28 = .ok (.ireturn, 1) := by decide +kernel
theorem dX12_lists_29 : decode cX12_lists 29 = .ok (.aload_n 0, 1) := by decide +kernel
theorem dX12_lists_30 : decode cX12_lists 30 = .ok (.iload_n 1, 1) := by decide +kernel
theorem dX12_lists_31 : decode cX12_lists 31 = .ok (.invokevirtual 315, 3) := by decide +kernel
theorem dX12_lists_34 : decode cX12_lists 34 = .ok (.istore_n 3, 1) := by decide +kernel
theorem dX12_lists_35 : decode cX12_lists 35 = .ok (.iload_n 3, 1) := by decide +kernel
theorem dX12_lists_36 : decode cX12_lists 36 = .ok (.ifCond .eq 5, 3) := by decide +kernel
theorem dX12_lists_39 : decode cX12_lists 39 = .ok (.iload_n 3, 1) := by decide +kernel
theorem dX12_lists_40 : decode cX12_lists 40 = .ok (.ireturn, 1) := by decide +kernel
theorem dX12_lists_41 : decode cX12_lists 41 = .ok (.iconst 0, 1) := by decide +kernel
theorem dX12_lists_42 : decode cX12_lists 42 = .ok (.istore 4, 2) := by decide +kernel
theorem dX12_lists_44 : decode cX12_lists 44 = .ok (.iload 4, 2) := by decide +kernel
theorem dX12_lists_46 : decode cX12_lists 46 = .ok (.aload_n 0, 1) := by decide +kernel
theorem dX12_lists_47 : decode cX12_lists 47 = .ok (.getfield 57, 3) := by decide +kernel
theorem dX12_lists_50 : decode cX12_lists 50 = .ok (.iload_n 1, 1) := by decide +kernel
theorem dX12_lists_51 : decode cX12_lists 51 = .ok (.iaload, 1) := by decide +kernel
theorem dX12_lists_52 : decode cX12_lists 52 = .ok (.if_icmp .ge 37, 3) := by decide +kernel
theorem dX12_lists_55 : decode cX12_lists 55 = .ok (.aload_n 0, 1) := by decide +kernel
theorem dX12_lists_56 : decode cX12_lists 56 = .ok (.getfield 60, 3) := by decide +kernel
theorem dX12_lists_59 : decode cX12_lists 59 = .ok (.bipush 40, 2) := by decide +kernel
theorem dX12_lists_61 : decode cX12_lists 61 = .ok (.iload_n 1, 1) := by decide +kernel
theorem dX12_lists_62 : decode cX12_lists 62 = .ok (.imul, 1) := by decide +kernel
theorem dX12_lists_63 : decode cX12_lists 63 = .ok (.iload 4, 2) := by decide +kernel
theorem dX12_lists_65 : decode cX12_lists 65 = .ok (.iadd, 1) := by decide +kernel
theorem dX12_lists_66 : decode cX12_lists 66 = .ok (.aload_n 0, 1) := by decide +kernel
theorem dX12_lists_67 : decode cX12_lists 67 = .ok (.aload_n 0, 1) := by decide +kernel
theorem dX12_lists_68 : decode cX12_lists 68 = .ok (.getfield 13, 3) := by decide +kernel
theorem dX12_lists_71 : decode cX12_lists 71 = .ok (.bipush 56, 2) := by decide +kernel
theorem dX12_lists_73 : decode cX12_lists 73 = .ok (.iload_n 2, 1) := by decide +kernel
theorem dX12_lists_74 : decode cX12_lists 74 = .ok (.iadd, 1) := by decide +kernel
theorem dX12_lists_75 : decode cX12_lists 75 = .ok (.iaload, 1) := by decide +kernel
theorem dX12_lists_76 : decode cX12_lists 76 = .ok (.iload 4, 2) := by decide +kernel
theorem dX12_lists_78 : decode cX12_lists 78 = .ok (.invokevirtual 249, 3) := by decide +kernel
theorem dX12_lists_81 : decode cX12_lists 81 = .ok (.i2l, 1) := by decide +kernel
theorem dX12_lists_82 : decode cX12_lists 82 = .ok (.lastore, 1) := by decide +kernel
theorem dX12_lists_83 : decode cX12_lists 83 = .ok (.iinc 4 1, 3) := by decide +kernel
theorem dX12_lists_86 : decode cX12_lists 86 = .ok (.goto (-42), 3) := by decide +kernel
theorem dX12_lists_89 : decode cX12_lists 89 = .ok (.aload_n 0, 1) := by decide +kernel
theorem dX12_lists_90 : decode cX12_lists 90 = .ok (.getfield 57, 3) := by decide +kernel
theorem dX12_lists_93 : decode cX12_lists 93 = .ok (.iload_n 1, 1) := by decide +kernel
theorem dX12_lists_94 : decode cX12_lists 94 = .ok (.iaload, 1) := by decide +kernel
theorem dX12_lists_95 : decode cX12_lists 95 = .ok (.ireturn, 1) := by decide +kernel
theorem dX12_image_0 : decode cX12_image 0 = .ok (.aload_n 0, 1) := by decide +kernel
theorem dX12_image_1 : decode cX12_image 1 = .ok (.iconst 0, 1) := by decide +kernel
theorem dX12_image_2 : decode cX12_image 2 = .ok (.putfield 1, 3) := by decide +kernel
theorem dX12_image_5 : decode cX12_image 5 = .ok (.iload_n 1, 1) := by decide +kernel
theorem dX12_image_6 : decode cX12_image 6 = .ok (.i2l, 1) := by decide +kernel
theorem dX12_image_7 : decode cX12_image 7 = .ok (.lconst 0, 1) := by decide +kernel
theorem dX12_image_8 : decode cX12_image 8 = .ok (.lconst 1, 1) := by decide +kernel
theorem dX12_image_9 : decode cX12_image 9 = .ok (.invokestatic 130, 3) := by decide +kernel
theorem dX12_image_12 : decode cX12_image 12 = .ok (.ifCond .ne 6, 3) := by decide +kernel
theorem dX12_image_15 : decode cX12_image 15 = .ok (.bipush (-2), 2) := by decide +kernel
theorem dX12_image_17 : decode cX12_image 17 = .ok (.ireturn, 1) := by decide +kernel
theorem dX12_image_18 : decode cX12_image 18 = .ok (.iconst 0, 1) := by decide +kernel
theorem dX12_image_19 : decode cX12_image 19 = .ok (.istore_n 2, 1) := by decide +kernel
theorem dX12_image_20 : decode cX12_image 20 = .ok (.iload_n 2, 1) := by decide +kernel
theorem dX12_image_21 : decode cX12_image 21 = .ok (.sipush 2242, 3) := by decide +kernel
theorem dX12_image_24 : decode cX12_image 24 = .ok (.if_icmp .ge 29, 3) := by decide +kernel
theorem dX12_image_27 : decode cX12_image 27 = .ok (.aload_n 0, 1) := by decide +kernel
theorem dX12_image_28 : decode cX12_image 28 = .ok (.getfield 13, 3) := by decide +kernel
theorem dX12_image_31 : decode cX12_image 31 = .ok (.sipush 2242, 3) := by decide +kernel
theorem dX12_image_34 : decode cX12_image 34 = .ok (.iload_n 1, 1) := by decide +kernel
theorem dX12_image_35 : decode cX12_image 35 = .ok (.iconst 1, 1) := by decide +kernel
theorem dX12_image_36 : decode cX12_image 36 = .ok (.iadd, 1) := by decide +kernel
theorem dX12_image_37 : decode cX12_image 37 = .ok (.imul, 1) := by decide +kernel
theorem dX12_image_38 : decode cX12_image 38 = .ok (.iload_n 2, 1) := by decide +kernel
theorem dX12_image_39 : decode cX12_image 39 = .ok (.iadd, 1) := by decide +kernel
theorem dX12_image_40 : decode cX12_image 40 = .ok (.aload_n 0, 1) := by decide +kernel
theorem dX12_image_41 : decode cX12_image 41 = .ok (.getfield 13, 3) := by decide +kernel
theorem dX12_image_44 : decode cX12_image 44 = .ok (.iload_n 2, 1) := by decide +kernel
theorem dX12_image_45 : decode cX12_image 45 = .ok (.iaload, 1) := by decide +kernel
theorem dX12_image_46 : decode cX12_image 46 = .ok (.iastore, 1) := by decide +kernel
theorem dX12_image_47 : decode cX12_image 47 = .ok (.iinc 2 1, 3) := by decide +kernel
theorem dX12_image_50 : decode cX12_image 50 = .ok (.goto (-30), 3) := by decide +kernel
theorem dX12_image_53 : decode cX12_image 53 = .ok (.aload_n 0, 1) := by decide +kernel
theorem dX12_image_54 : decode cX12_image 54 = .ok (.getfield 17, 3) := by decide +kernel
theorem dX12_image_57 : decode cX12_image 57 = .ok (.iload_n 1, 1) := by decide +kernel
theorem dX12_image_58 : decode cX12_image 58 = .ok (.iconst 1, 1) := by decide +kernel
theorem dX12_image_59 : decode cX12_image 59 = .ok (.bastore, 1) := by decide +kernel
theorem dX12_image_60 : decode cX12_image 60 = .ok (.iconst 0, 1) := by decide +kernel
theorem dX12_image_61 : decode cX12_image 61 = .ok (.ireturn, 1) := by decide +kernel
theorem dX12_restore_0 : decode cX12_restore 0 = .ok (.aload_n 0, 1) := by decide +kernel
theorem dX12_restore_1 : decode cX12_restore 1 = .ok (.iconst 0, 1) := by decide +kernel
theorem dX12_restore_2 : decode cX12_restore 2 = .ok (.putfield 1, 3) := by decide +kernel
theorem dX12_restore_5 : decode cX12_restore 5 = .ok (.iload_n 1, 1) := by decide +kernel
theorem dX12_restore_6 : decode cX12_restore 6 = .ok (.i2l, 1) := by decide +kernel
theorem dX12_restore_7 : decode cX12_restore 7 = .ok (.lconst 0, 1) := by decide +kernel
theorem dX12_restore_8 : decode cX12_restore 8 = .ok (.lconst 1, 1) := by decide +kernel
theorem dX12_restore_9 : decode cX12_restore 9 = .ok (.invokestatic 130, 3) := by decide +kernel
theorem dX12_restore_12 : decode cX12_restore 12 = .ok (.ifCond .ne 6, 3) := by decide +kernel
theorem dX12_restore_15 : decode cX12_restore 15 = .ok (.bipush (-2), 2) := by decide +kernel
theorem dX12_restore_17 : decode cX12_restore 17 = .ok (.ireturn, 1) := by decide +kernel
theorem dX12_restore_18 : decode cX12_restore 18 = .ok (.aload_n 0, 1) := by decide +kernel
theorem dX12_restore_19 : decode cX12_restore 19 = .ok (.getfield 17, 3) := by decide +kernel
theorem dX12_restore_22 : decode cX12_restore 22 = .ok (.iload_n 1, 1) := by decide +kernel
theorem dX12_restore_23 : decode cX12_restore 23 = .ok (.baload, 1) := by decide +kernel
theorem dX12_restore_24 : decode cX12_restore 24 = .ok (.ifCond .ne 6, 3) := by decide +kernel
theorem dX12_restore_27 : decode cX12_restore 27 = .ok (.bipush (-5), 2) := by decide +kernel
theorem dX12_restore_29 : decode cX12_restore 29 = .ok (.ireturn, 1) := by decide +kernel
theorem dX12_restore_30 : decode cX12_restore 30 = .ok (.iconst 0, 1) := by decide +kernel
theorem dX12_restore_31 : decode cX12_restore 31 = .ok (.istore_n 2, 1) := by decide +kernel
theorem dX12_restore_32 : decode cX12_restore 32 = .ok (.iload_n 2, 1) := by decide +kernel
theorem dX12_restore_33 : decode cX12_restore 33 = .ok (.sipush 2242, 3) := by decide +kernel
theorem dX12_restore_36 : decode cX12_restore 36 = .ok (.if_icmp .ge 29, 3) := by decide +kernel
theorem dX12_restore_39 : decode cX12_restore 39 = .ok (.aload_n 0, 1) := by decide +kernel
theorem dX12_restore_40 : decode cX12_restore 40 = .ok (.getfield 13, 3) := by decide +kernel
theorem dX12_restore_43 : decode cX12_restore 43 = .ok (.iload_n 2, 1) := by decide +kernel
theorem dX12_restore_44 : decode cX12_restore 44 = .ok (.aload_n 0, 1) := by decide +kernel
theorem dX12_restore_45 : decode cX12_restore 45 = .ok (.getfield 13, 3) := by decide +kernel
theorem dX12_restore_48 : decode cX12_restore 48 = .ok (.sipush 2242, 3) := by decide +kernel
theorem dX12_restore_51 : decode cX12_restore 51 = .ok (.iload_n 1, 1) := by decide +kernel
theorem dX12_restore_52 : decode cX12_restore 52 = .ok (.iconst 1, 1) := by decide +kernel
theorem dX12_restore_53 : decode cX12_restore 53 = .ok (.iadd, 1) := by decide +kernel
theorem dX12_restore_54 : decode cX12_restore 54 = .ok (.imul, 1) := by decide +kernel
theorem dX12_restore_55 : decode cX12_restore 55 = .ok (.iload_n 2, 1) := by decide +kernel
theorem dX12_restore_56 : decode cX12_restore 56 = .ok (.iadd, 1) := by decide +kernel
theorem dX12_restore_57 : decode cX12_restore 57 = .ok (.iaload, 1) := by decide +kernel
theorem dX12_restore_58 : decode cX12_restore 58 = .ok (.iastore, 1) := by decide +kernel
theorem dX12_restore_59 : decode cX12_restore 59 = .ok (.iinc 2 1, 3) := by decide +kernel
theorem dX12_restore_62 : decode cX12_restore 62 = .ok (.goto (-30), 3) := by decide +kernel
theorem dX12_restore_65 : decode cX12_restore 65 = .ok (.aload_n 0, 1) := by decide +kernel
theorem dX12_restore_66 : decode cX12_restore 66 = .ok (.getfield 13, 3) := by decide +kernel
theorem dX12_restore_69 : decode cX12_restore 69 = .ok (.sipush 180, 3) := by decide +kernel
theorem dX12_restore_72 : decode cX12_restore 72 = .ok (.iconst 0, 1) := by decide +kernel
theorem dX12_restore_73 : decode cX12_restore 73 = .ok (.iastore, 1) := by decide +kernel
theorem dX12_restore_74 : decode cX12_restore 74 = .ok (.iconst 0, 1) := by decide +kernel
theorem dX12_restore_75 : decode cX12_restore 75 = .ok (.ireturn, 1) := by decide +kernel
theorem dX12_count_0 : decode cX12_count 0 = .ok (.aload_n 0, 1) := by decide +kernel
theorem dX12_count_1 : decode cX12_count 1 = .ok (.iconst 0, 1) := by decide +kernel
theorem dX12_count_2 : decode cX12_count 2 = .ok (.putfield 1, 3) := by decide +kernel
theorem dX12_count_5 : decode cX12_count 5 = .ok (.iload_n 1, 1) := by decide +kernel
theorem dX12_count_6 : decode cX12_count 6 = .ok (.tableswitch 127 0 9 #[54, 61, 68, 75, 82, 90, 98, 106, 115, 120], 54) := by decide +kernel
theorem dX12_count_60 : decode cX12_count 60 = .ok (.aload_n 0, 1) := by decide +kernel
theorem dX12_count_61 : decode cX12_count 61 = .ok (.getfield 13, 3) := by decide +kernel
theorem dX12_count_64 : decode cX12_count 64 = .ok (.iconst 1, 1) := by decide +kernel
theorem dX12_count_65 : decode cX12_count 65 = .ok (.iaload, 1) := by decide +kernel
theorem dX12_count_66 : decode cX12_count 66 = .ok (.ireturn, 1) := by decide +kernel
theorem dX12_count_67 : decode cX12_count 67 = .ok (.aload_n 0, 1) := by decide +kernel
theorem dX12_count_68 : decode cX12_count 68 = .ok (.getfield 13, 3) := by decide +kernel
theorem dX12_count_71 : decode cX12_count 71 = .ok (.iconst 2, 1) := by decide +kernel
theorem dX12_count_72 : decode cX12_count 72 = .ok (.iaload, 1) := by decide +kernel
theorem dX12_count_73 : decode cX12_count 73 = .ok (.ireturn, 1) := by decide +kernel
theorem dX12_count_74 : decode cX12_count 74 = .ok (.aload_n 0, 1) := by decide +kernel
theorem dX12_count_75 : decode cX12_count 75 = .ok (.getfield 13, 3) := by decide +kernel
theorem dX12_count_78 : decode cX12_count 78 = .ok (.iconst 3, 1) := by decide +kernel
theorem dX12_count_79 : decode cX12_count 79 = .ok (.iaload, 1) := by decide +kernel
theorem dX12_count_80 : decode cX12_count 80 = .ok (.ireturn, 1) := by decide +kernel
theorem dX12_count_81 : decode cX12_count 81 = .ok (.aload_n 0, 1) := by decide +kernel
theorem dX12_count_82 : decode cX12_count 82 = .ok (.getfield 13, 3) := by decide +kernel
theorem dX12_count_85 : decode cX12_count 85 = .ok (.iconst 4, 1) := by decide +kernel
theorem dX12_count_86 : decode cX12_count 86 = .ok (.iaload, 1) := by decide +kernel
theorem dX12_count_87 : decode cX12_count 87 = .ok (.ireturn, 1) := by decide +kernel
theorem dX12_count_88 : decode cX12_count 88 = .ok (.aload_n 0, 1) := by decide +kernel
theorem dX12_count_89 : decode cX12_count 89 = .ok (.getfield 13, 3) := by decide +kernel
theorem dX12_count_92 : decode cX12_count 92 = .ok (.bipush 67, 2) := by decide +kernel
theorem dX12_count_94 : decode cX12_count 94 = .ok (.iaload, 1) := by decide +kernel
theorem dX12_count_95 : decode cX12_count 95 = .ok (.ireturn, 1) := by decide +kernel
theorem dX12_count_96 : decode cX12_count 96 = .ok (.aload_n 0, 1) := by decide +kernel
theorem dX12_count_97 : decode cX12_count 97 = .ok (.getfield 13, 3) := by decide +kernel
theorem dX12_count_100 : decode cX12_count 100 = .ok (.bipush 64, 2) := by decide +kernel
theorem dX12_count_102 : decode cX12_count 102 = .ok (.iaload, 1) := by decide +kernel
theorem dX12_count_103 : decode cX12_count 103 = .ok (.ireturn, 1) := by decide +kernel
theorem dX12_count_104 : decode cX12_count 104 = .ok (.aload_n 0, 1) := by decide +kernel
theorem dX12_count_105 : decode cX12_count 105 = .ok (.getfield 13, 3) := by decide +kernel
theorem dX12_count_108 : decode cX12_count 108 = .ok (.bipush 65, 2) := by decide +kernel
theorem dX12_count_110 : decode cX12_count 110 = .ok (.iaload, 1) := by decide +kernel
theorem dX12_count_111 : decode cX12_count 111 = .ok (.ireturn, 1) := by decide +kernel
theorem dX12_count_112 : decode cX12_count 112 = .ok (.aload_n 0, 1) := by decide +kernel
theorem dX12_count_113 : decode cX12_count 113 = .ok (.getfield 13, 3) := by decide +kernel
theorem dX12_count_116 : decode cX12_count 116 = .ok (.sipush 180, 3) := by decide +kernel
theorem dX12_count_119 : decode cX12_count 119 = .ok (.iaload, 1) := by decide +kernel
theorem dX12_count_120 : decode cX12_count 120 = .ok (.ireturn, 1) := by decide +kernel
theorem dX12_count_121 : decode cX12_count 121 = .ok (.aload_n 0, 1) := by decide +kernel
theorem dX12_count_122 : decode cX12_count 122 = .ok (.getfield 68, 3) := by decide +kernel
theorem dX12_count_125 : decode cX12_count 125 = .ok (.ireturn, 1) := by decide +kernel
theorem dX12_count_126 : decode cX12_count 126 = .ok (.aload_n 0, 1) := by decide +kernel
theorem dX12_count_127 : decode cX12_count 127 = .ok (.getfield 13, 3) := by decide +kernel
theorem dX12_count_130 : decode cX12_count 130 = .ok (.iconst 0, 1) := by decide +kernel
theorem dX12_count_131 : decode cX12_count 131 = .ok (.iaload, 1) := by decide +kernel
theorem dX12_count_132 : decode cX12_count 132 = .ok (.ireturn, 1) := by decide +kernel
theorem dX12_count_133 : decode cX12_count 133 = .ok (.iconst (-1), 1) := by decide +kernel
theorem dX12_count_134 : decode cX12_count 134 = .ok (.ireturn, 1) := by decide +kernel
