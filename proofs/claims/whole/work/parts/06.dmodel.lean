theorem dX9_init_0 : decode cX9_init 0 = .ok (.aload_n 0, 1) := by decide +kernel
theorem dX9_init_1 : decode cX9_init 1 = .ok (.invokespecial 1, 3) := by decide +kernel
theorem dX9_init_4 : decode cX9_init 4 = .ok (.aload_n 0, 1) := by decide +kernel
theorem dX9_init_5 : decode cX9_init 5 = .ok (.sipush 193, 3) := by decide +kernel
theorem dX9_init_8 : decode cX9_init 8 = .ok (.newarray .int, 2) := by decide +kernel
theorem dX9_init_10 : decode cX9_init 10 = .ok (.putfield 7, 3) := by decide +kernel
theorem dX9_init_13 : decode cX9_init 13 = .ok (.aload_n 0, 1) := by decide +kernel
theorem dX9_init_14 : decode cX9_init 14 = .ok (.sipush 965, 3) := by decide +kernel
theorem dX9_init_17 : decode cX9_init 17 = .ok (.newarray .int, 2) := by decide +kernel
theorem dX9_init_19 : decode cX9_init 19 = .ok (.putfield 13, 3) := by decide +kernel
theorem dX9_init_22 : decode cX9_init 22 = .ok (.aload_n 0, 1) := by decide +kernel
theorem dX9_init_23 : decode cX9_init 23 = .ok (.bipush 8, 2) := by decide +kernel
theorem dX9_init_25 : decode cX9_init 25 = .ok (.newarray .int, 2) := by decide +kernel
theorem dX9_init_27 : decode cX9_init 27 = .ok (.putfield 16, 3) := by decide +kernel
theorem dX9_init_30 : decode cX9_init 30 = .ok (.aload_n 0, 1) := by decide +kernel
theorem dX9_init_31 : decode cX9_init 31 = .ok (.bipush 8, 2) := by decide +kernel
theorem dX9_init_33 : decode cX9_init 33 = .ok (.newarray .int, 2) := by decide +kernel
theorem dX9_init_35 : decode cX9_init 35 = .ok (.putfield 19, 3) := by decide +kernel
theorem dX9_init_38 : decode cX9_init 38 = .ok (.aload_n 0, 1) := by decide +kernel
theorem dX9_init_39 : decode cX9_init 39 = .ok (.bipush 8, 2) := by decide +kernel
theorem dX9_init_41 : decode cX9_init 41 = .ok (.newarray .int, 2) := by decide +kernel
theorem dX9_init_43 : decode cX9_init 43 = .ok (.putfield 22, 3) := by decide +kernel
theorem dX9_init_46 : decode cX9_init 46 = .ok (.aload_n 0, 1) := by decide +kernel
theorem dX9_init_47 : decode cX9_init 47 = .ok (.bipush 81, 2) := by decide +kernel
theorem dX9_init_49 : decode cX9_init 49 = .ok (.newarray .int, 2) := by decide +kernel
theorem dX9_init_51 : decode cX9_init 51 = .ok (.putfield 25, 3) := by decide +kernel
theorem dX9_init_54 : decode cX9_init 54 = .ok (.aload_n 0, 1) := by decide +kernel
theorem dX9_init_55 : decode cX9_init 55 = .ok (.bipush 16, 2) := by decide +kernel
theorem dX9_init_57 : decode cX9_init 57 = .ok (.newarray .int, 2) := by decide +kernel
theorem dX9_init_59 : decode cX9_init 59 = .ok (.putfield 28, 3) := by decide +kernel
theorem dX9_init_62 : decode cX9_init 62 = .ok (.aload_n 0, 1) := by decide +kernel
theorem dX9_init_63 : decode cX9_init 63 = .ok (.bipush 8, 2) := by decide +kernel
theorem dX9_init_65 : decode cX9_init 65 = .ok (.newarray .int, 2) := by decide +kernel
theorem dX9_init_67 : decode cX9_init 67 = .ok (.putfield 31, 3) := by decide +kernel
theorem dX9_init_70 : decode cX9_init 70 = .ok (.aload_n 0, 1) := by decide +kernel
theorem dX9_init_71 : decode cX9_init 71 = .ok (.iconst 4, 1) := by decide +kernel
theorem dX9_init_72 : decode cX9_init 72 = .ok (.newarray .int, 2) := by decide +kernel
theorem dX9_init_74 : decode cX9_init 74 = .ok (.putfield 34, 3) := by decide +kernel
theorem dX9_init_77 : decode cX9_init 77 = .ok (.aload_n 0, 1) := by decide +kernel
theorem dX9_init_78 : decode cX9_init 78 = .ok (.iconst 4, 1) := by decide +kernel
theorem dX9_init_79 : decode cX9_init 79 = .ok (.newarray .int, 2) := by decide +kernel
theorem dX9_init_81 : decode cX9_init 81 = .ok (.putfield 37, 3) := by decide +kernel
theorem dX9_init_84 : decode cX9_init 84 = .ok (.aload_n 0, 1) := by decide +kernel
theorem dX9_init_85 : decode cX9_init 85 = .ok (.bipush 12, 2) := by decide +kernel
theorem dX9_init_87 : decode cX9_init 87 = .ok (.newarray .int, 2) := by decide +kernel
theorem dX9_init_89 : decode cX9_init 89 = .ok (.putfield 40, 3) := by decide +kernel
theorem dX9_init_92 : decode cX9_init 92 = .ok (.aload_n 0, 1) := by decide +kernel
theorem dX9_init_93 : decode cX9_init 93 = .ok (.bipush 12, 2) := by decide +kernel
theorem dX9_init_95 : decode cX9_init 95 = .ok (.newarray .int, 2) := by decide +kernel
theorem dX9_init_97 : decode cX9_init 97 = .ok (.putfield 43, 3) := by decide +kernel
theorem dX9_init_100 : decode cX9_init 100 = .ok (.aload_n 0, 1) := by decide +kernel
theorem dX9_init_101 : decode cX9_init 101 = .ok (.getfield 7, 3) := by decide +kernel
theorem dX9_init_104 : decode cX9_init 104 = .ok (.sipush 188, 3) := by decide +kernel
theorem dX9_init_107 : decode cX9_init 107 = .ok (.iconst 2, 1) := by decide +kernel
theorem dX9_init_108 : decode cX9_init 108 = .ok (.iastore, 1) := by decide +kernel
theorem dX9_init_109 : decode cX9_init 109 = .ok (.aload_n 0, 1) := by decide +kernel
theorem dX9_init_110 : decode cX9_init 110 = .ok (.getfield 7, 3) := by decide +kernel
theorem dX9_init_113 : decode cX9_init 113 = .ok (.sipush 189, 3) := by decide +kernel
theorem dX9_init_116 : decode cX9_init 116 = .ok (.iconst 3, 1) := by decide +kernel
theorem dX9_init_117 : decode cX9_init 117 = .ok (.iastore, 1) := by decide +kernel
theorem dX9_init_118 : decode cX9_init 118 = .ok (.aload_n 0, 1) := by decide +kernel
theorem dX9_init_119 : decode cX9_init 119 = .ok (.getfield 7, 3) := by decide +kernel
theorem dX9_init_122 : decode cX9_init 122 = .ok (.sipush 190, 3) := by decide +kernel
theorem dX9_init_125 : decode cX9_init 125 = .ok (.iconst 1, 1) := by decide +kernel
theorem dX9_init_126 : decode cX9_init 126 = .ok (.iastore, 1) := by decide +kernel
theorem dX9_init_127 : decode cX9_init 127 = .ok (.aload_n 0, 1) := by decide +kernel
theorem dX9_init_128 : decode cX9_init 128 = .ok (.getfield 7, 3) := by decide +kernel
theorem dX9_init_131 : decode cX9_init 131 = .ok (.sipush 191, 3) := by decide +kernel
theorem dX9_init_134 : decode cX9_init 134 = .ok (.iconst 2, 1) := by decide +kernel
theorem dX9_init_135 : decode cX9_init 135 = .ok (.iastore, 1) := by decide +kernel
theorem dX9_init_136 : decode cX9_init 136 = .ok (.aload_n 0, 1) := by decide +kernel
theorem dX9_init_137 : decode cX9_init 137 = .ok (.getfield 7, 3) := by decide +kernel
theorem dX9_init_140 : decode cX9_init 140 = .ok (.sipush 192, 3) := by decide +kernel
theorem dX9_init_143 : decode cX9_init 143 = .ok (.iconst 3, 1) := by decide +kernel
theorem dX9_init_144 : decode cX9_init 144 = .ok (.iastore, 1) := by decide +kernel
theorem dX9_init_145 : decode cX9_init 145 = .ok (.return_, 1) := by decide +kernel
theorem dX9_in_0 : decode cX9_in 0 = .ok (.lload_n 0, 1) := by decide +kernel
theorem dX9_in_1 : decode cX9_in 1 = .ok (.lload_n 2, 1) := by decide +kernel
theorem dX9_in_2 : decode cX9_in 2 = .ok (.lcmp, 1) := by decide +kernel
theorem dX9_in_3 : decode cX9_in 3 = .ok (.ifCond .lt 14, 3) := by decide +kernel
theorem dX9_in_6 : decode cX9_in 6 = .ok (.lload_n 0, 1) := by decide +kernel
theorem dX9_in_7 : decode cX9_in 7 = .ok (.lload 4, 2) := by decide +kernel
theorem dX9_in_9 : decode cX9_in 9 = .ok (.lcmp, 1) := by decide +kernel
theorem dX9_in_10 : decode cX9_in 10 = .ok (.ifCond .gt 7, 3) := by decide +kernel
theorem dX9_in_13 : decode cX9_in 13 = .ok (.iconst 1, 1) := by decide +kernel
theorem dX9_in_14 : decode cX9_in 14 = .ok (.goto 4, 3) := by decide +kernel
theorem dX9_in_17 : decode cX9_in 17 = .ok (.iconst 0, 1) := by decide +kernel
theorem dX9_in_18 : decode cX9_in 18 = .ok (.ireturn, 1) := by decide +kernel
theorem dX9_keeps_0 : decode cX9_keeps 0 = .ok (.aload_n 0, 1) := by decide +kernel
theorem dX9_keeps_1 : decode cX9_keeps 1 = .ok (.getfield 46, 3) := by decide +kernel
theorem dX9_keeps_4 : decode cX9_keeps 4 = .ok (.iconst 5, 1) := by decide +kernel
theorem dX9_keeps_5 : decode cX9_keeps 5 = .ok (.if_icmp .ne 44, 3) := by decide +kernel
theorem dX9_keeps_8 : decode cX9_keeps 8 = .ok (.iconst 0, 1) := by decide +kernel
theorem dX9_keeps_9 : decode cX9_keeps 9 = .ok (.istore_n 1, 1) := by decide +kernel
theorem dX9_keeps_10 : decode cX9_keeps 10 = .ok (.iload_n 1, 1) := by decide +kernel
theorem dX9_keeps_11 : decode cX9_keeps 11 = .ok (.sipush 772, 3) := by decide +kernel
theorem dX9_keeps_14 : decode cX9_keeps 14 = .ok (.if_icmp .ge 25, 3) := by decide +kernel
theorem dX9_keeps_17 : decode cX9_keeps 17 = .ok (.aload_n 0, 1) := by decide +kernel
theorem dX9_keeps_18 : decode cX9_keeps 18 = .ok (.getfield 13, 3) := by decide +kernel
theorem dX9_keeps_21 : decode cX9_keeps 21 = .ok (.iload_n 1, 1) := by decide +kernel
theorem dX9_keeps_22 : decode cX9_keeps 22 = .ok (.aload_n 0, 1) := by decide +kernel
theorem dX9_keeps_23 : decode cX9_keeps 23 = .ok (.getfield 13, 3) := by decide +kernel
theorem dX9_keeps_26 : decode cX9_keeps 26 = .ok (.sipush 193, 3) := by decide +kernel
theorem dX9_keeps_29 : decode cX9_keeps 29 = .ok (.iload_n 1, 1) := by decide +kernel
theorem dX9_keeps_30 : decode cX9_keeps 30 = .ok (.iadd, 1) := by decide +kernel
theorem dX9_keeps_31 : decode cX9_keeps 31 = .ok (.iaload, 1) := by decide +kernel
theorem dX9_keeps_32 : decode cX9_keeps 32 = .ok (.iastore, 1) := by decide +kernel
theorem dX9_keeps_33 : decode cX9_keeps 33 = .ok (.iinc 1 1, 3) := by decide +kernel
theorem dX9_keeps_36 : decode cX9_keeps 36 = .ok (.goto (-26), 3) := by decide +kernel
theorem dX9_keeps_39 : decode cX9_keeps 39 = .ok (.aload_n 0, 1) := by decide +kernel
theorem dX9_keeps_40 : decode cX9_keeps 40 = .ok (.dup, 1) := by decide +kernel
theorem dX9_keeps_41 : decode cX9_keeps 41 = .ok (.getfield 46, 3) := by decide +kernel
theorem dX9_keeps_44 : decode cX9_keeps 44 = .ok (.iconst 1, 1) := by decide +kernel
theorem dX9_keeps_45 : decode cX9_keeps 45 = .ok (.isub, 1) := by decide +kernel
theorem dX9_keeps_46 : decode cX9_keeps 46 = .ok (.putfield 46, 3) := by decide +kernel
theorem dX9_keeps_49 : decode cX9_keeps 49 = .ok (.iconst 0, 1) := by decide +kernel
theorem dX9_keeps_50 : decode cX9_keeps 50 = .ok (.istore_n 1, 1) := by decide +kernel
theorem dX9_keeps_51 : decode cX9_keeps 51 = .ok (.iload_n 1, 1) := by decide +kernel
theorem dX9_keeps_52 : decode cX9_keeps 52 = .ok (.sipush 193, 3) := by decide +kernel
theorem dX9_keeps_55 : decode cX9_keeps 55 = .ok (.if_icmp .ge 30, 3) := by decide +kernel
theorem dX9_keeps_58 : decode cX9_keeps 58 = .ok (.aload_n 0, 1) := by decide +kernel
theorem dX9_keeps_59 : decode cX9_keeps 59 = .ok (.getfield 13, 3) := by decide +kernel
theorem dX9_keeps_62 : decode cX9_keeps 62 = .ok (.sipush 193, 3) := by decide +kernel
theorem dX9_keeps_65 : decode cX9_keeps 65 = .ok (.aload_n 0, 1) := by decide +kernel
theorem dX9_keeps_66 : decode cX9_keeps 66 = .ok (.getfield 46, 3) := by decide +kernel
theorem dX9_keeps_69 : decode cX9_keeps 69 = .ok (.imul, 1) := by decide +kernel
theorem dX9_keeps_70 : decode cX9_keeps 70 = .ok (.iload_n 1, 1) := by decide +kernel
theorem dX9_keeps_71 : decode cX9_keeps 71 = .ok (.iadd, 1) := by decide +kernel
theorem dX9_keeps_72 : decode cX9_keeps 72 = .ok (.aload_n 0, 1) := by decide +kernel
theorem dX9_keeps_73 : decode cX9_keeps 73 = .ok (.getfield 7, 3) := by decide +kernel
theorem dX9_keeps_76 : decode cX9_keeps 76 = .ok (.iload_n 1, 1) := by decide +kernel
theorem dX9_keeps_77 : decode cX9_keeps 77 = .ok (.iaload, 1) := by decide +kernel
theorem dX9_keeps_78 : decode cX9_keeps 78 = .ok (.iastore, 1) := by decide +kernel
theorem dX9_keeps_79 : decode cX9_keeps 79 = .ok (.iinc 1 1, 3) := by decide +kernel
theorem dX9_keeps_82 : decode cX9_keeps 82 = .ok (.goto (-31), 3) := by decide +kernel
theorem dX9_keeps_85 : decode cX9_keeps 85 = .ok (.aload_n 0, 1) := by decide +kernel
theorem dX9_keeps_86 : decode cX9_keeps 86 = .ok (.dup, 1) := by decide +kernel
theorem dX9_keeps_87 : decode cX9_keeps 87 = .ok (.getfield 46, 3) := by decide +kernel
theorem dX9_keeps_90 : decode cX9_keeps 90 = .ok (.iconst 1, 1) := by decide +kernel
theorem dX9_keeps_91 : decode cX9_keeps 91 = .ok (.iadd, 1) := by decide +kernel
theorem dX9_keeps_92 : decode cX9_keeps 92 = .ok (.putfield 46, 3) := by decide +kernel
theorem dX9_keeps_95 : decode cX9_keeps 95 = .ok (.return_, 1) := by decide +kernel
theorem dX9_undo_0 : decode cX9_undo 0 = .ok (.aload_n 0, 1) := by decide +kernel
theorem dX9_undo_1 : decode cX9_undo 1 = .ok (.getfield 46, 3) := by decide +kernel
theorem dX9_undo_4 : decode cX9_undo 4 = .ok (.ifCond .ne 6, 3) := by decide +kernel
theorem dX9_undo_7 : decode cX9_undo 7 = .ok (.bipush (-2), 2) := by decide +kernel
theorem dX9_undo_9 : decode cX9_undo 9 = .ok (.ireturn, 1) := by decide +kernel
theorem dX9_undo_10 : decode cX9_undo 10 = .ok (.aload_n 0, 1) := by decide +kernel
theorem dX9_undo_11 : decode cX9_undo 11 = .ok (.dup, 1) := by decide +kernel
theorem dX9_undo_12 : decode cX9_undo 12 = .ok (.getfield 46, 3) := by decide +kernel
theorem dX9_undo_15 : decode cX9_undo 15 = .ok (.iconst 1, 1) := by decide +kernel
theorem dX9_undo_16 : decode cX9_undo 16 = .ok (.isub, 1) := by decide +kernel
theorem dX9_undo_17 : decode cX9_undo 17 = .ok (.putfield 46, 3) := by decide +kernel
theorem dX9_undo_20 : decode cX9_undo 20 = .ok (.iconst 0, 1) := by decide +kernel
theorem dX9_undo_21 : decode cX9_undo 21 = .ok (.istore_n 1, 1) := by decide +kernel
theorem dX9_undo_22 : decode cX9_undo 22 = .ok (.iload_n 1, 1) := by decide +kernel
theorem dX9_undo_23 : decode cX9_undo 23 = .ok (.sipush 193, 3) := by decide +kernel
theorem dX9_undo_26 : decode cX9_undo 26 = .ok (.if_icmp .ge 30, 3) := by decide +kernel
theorem dX9_undo_29 : decode cX9_undo 29 = .ok (.aload_n 0, 1) := by decide +kernel
theorem dX9_undo_30 : decode cX9_undo 30 = .ok (.getfield 7, 3) := by decide +kernel
theorem dX9_undo_33 : decode cX9_undo 33 = .ok (.iload_n 1, 1) := by decide +kernel
theorem dX9_undo_34 : decode cX9_undo 34 = .ok (.aload_n 0, 1) := by decide +kernel
theorem dX9_undo_35 : decode cX9_undo 35 = .ok (.getfield 13, 3) := by decide +kernel
theorem dX9_undo_38 : decode cX9_undo 38 = .ok (.sipush 193, 3) := by decide +kernel
theorem dX9_undo_41 : decode cX9_undo 41 = .ok (.aload_n 0, 1) := by decide +kernel
theorem dX9_undo_42 : decode cX9_undo 42 = .ok (.getfield 46, 3) := by decide +kernel
theorem dX9_undo_45 : decode cX9_undo 45 = .ok (.imul, 1) := by decide +kernel
theorem dX9_undo_46 : decode cX9_undo 46 = .ok (.iload_n 1, 1) := by decide +kernel
theorem dX9_undo_47 : decode cX9_undo 47 = .ok (.iadd, 1) := by decide +kernel
theorem dX9_undo_48 : decode cX9_undo 48 = .ok (.iaload, 1) := by decide +kernel
theorem dX9_undo_49 : decode cX9_undo 49 = .ok (.iastore, 1) := by decide +kernel
theorem dX9_undo_50 : decode cX9_undo 50 = .ok (.iinc 1 1, 3) := by decide +kernel
theorem dX9_undo_53 : decode cX9_undo 53 = .ok (.goto (-31), 3) := by decide +kernel
theorem dX9_undo_56 : decode cX9_undo 56 = .ok (.aload_n 0, 1) := by decide +kernel
theorem dX9_undo_57 : decode cX9_undo 57 = .ok (.getfield 46, 3) := by decide +kernel
theorem dX9_undo_60 : decode cX9_undo 60 = .ok (.ireturn, 1) := by decide +kernel
theorem dX9_isSaying_0 : decode cX9_isSaying 0 = .ok (.iload_n 1, 1) := by decide +kernel
theorem dX9_isSaying_1 : decode cX9_isSaying 1 = .ok (.i2l, 1) := by decide +kernel
theorem dX9_isSaying_2 : decode cX9_isSaying 2 = .ok (.lconst 0, 1) := by decide +kernel
theorem dX9_isSaying_3 : decode cX9_isSaying 3 = .ok (.aload_n 0, 1) := by decide +kernel
theorem dX9_isSaying_4 : decode cX9_isSaying 4 = .ok (.getfield 7, 3) := by decide +kernel
theorem dX9_isSaying_7 : decode cX9_isSaying 7 = .ok (.iconst 0, 1) := by decide +kernel
theorem dX9_isSaying_8 : decode cX9_isSaying 8 = .ok (.iaload, 1) := by decide +kernel
theorem dX9_isSaying_9 : decode cX9_isSaying 9 = .ok (.iconst 1, 1) := by decide +kernel
theorem dX9_isSaying_10 : decode cX9_isSaying 10 = .ok (.isub, 1) := by decide +kernel
theorem dX9_isSaying_11 : decode cX9_isSaying 11 = .ok (.i2l, 1) := by decide +kernel
theorem dX9_isSaying_12 : decode cX9_isSaying 12 = .ok (.invokestatic 50, 3) := by decide +kernel
theorem dX9_isSaying_15 : decode cX9_isSaying 15 = .ok (.ireturn, 1) := by decide +kernel
theorem dX9_isPattern_0 : decode cX9_isPattern 0 = .ok (.iload_n 1, 1) := by decide +kernel
theorem dX9_isPattern_1 : decode cX9_isPattern 1 = .ok (.i2l, 1) := by decide +kernel
theorem dX9_isPattern_2 : decode cX9_isPattern 2 = .ok (.lconst 0, 1) := by decide +kernel
theorem dX9_isPattern_3 : decode cX9_isPattern 3 = .ok (.aload_n 0, 1) := by decide +kernel
theorem dX9_isPattern_4 : decode cX9_isPattern 4 = .ok (.getfield 7, 3) := by decide +kernel
theorem dX9_isPattern_7 : decode cX9_isPattern 7 = .ok (.sipush 133, 3) := by decide +kernel
theorem dX9_isPattern_10 : decode cX9_isPattern 10 = .ok (.iaload, 1) := by decide +kernel
theorem dX9_isPattern_11 : decode cX9_isPattern 11 = .ok (.iconst 1, 1) := by decide +kernel
theorem dX9_isPattern_12 : decode cX9_isPattern 12 = .ok (.isub, 1) := by decide +kernel
theorem dX9_isPattern_13 : decode cX9_isPattern 13 = .ok (.i2l, 1) := by decide +kernel
theorem dX9_isPattern_14 : decode cX9_isPattern 14 = .ok (.invokestatic 50, 3) := by decide +kernel
theorem dX9_isPattern_17 : decode cX9_isPattern 17 = .ok (.ireturn, 1) := by decide +kernel
theorem dX9_append_0 : decode cX9_append 0 = .ok (.iload_n 1, 1) := by decide +kernel
theorem dX9_append_1 : decode cX9_append 1 = .ok (.i2l, 1) := by decide +kernel
theorem dX9_append_2 : decode cX9_append 2 = .ok (.lconst 0, 1) := by decide +kernel
theorem dX9_append_3 : decode cX9_append 3 = .ok (.ldc2_w 54, 3) := by decide +kernel
theorem dX9_append_6 : decode cX9_append 6 = .ok (.invokestatic 50, 3) := by decide +kernel
theorem dX9_append_9 : decode cX9_append 9 = .ok (.ifCond .ne 5, 3) := by decide +kernel
theorem dX9_append_12 : decode cX9_append 12 = .ok (.iconst (-1), 1) := by decide +kernel
theorem dX9_append_13 : decode cX9_append 13 = .ok (.ireturn, 1) := by decide +kernel
theorem dX9_append_14 : decode cX9_append 14 = .ok (.aload_n 0, 1) := by decide +kernel
theorem dX9_append_15 : decode cX9_append 15 = .ok (.getfield 56, 3) := by decide +kernel
theorem dX9_append_18 : decode cX9_append 18 = .ok (.bipush 8, 2) := by decide +kernel
theorem dX9_append_20 : decode cX9_append 20 = .ok (.if_icmp .ne 6, 3) := by decide +kernel
theorem dX9_append_23 : decode cX9_append 23 = .ok (.bipush (-3), 2) := by decide +kernel
theorem dX9_append_25 : decode cX9_append 25 = .ok (.ireturn, 1) := by decide +kernel
theorem dX9_append_26 : decode cX9_append 26 = .ok (.aload_n 0, 1) := by decide +kernel
theorem dX9_append_27 : decode cX9_append 27 = .ok (.getfield 16, 3) := by decide +kernel
theorem dX9_append_30 : decode cX9_append 30 = .ok (.aload_n 0, 1) := by decide +kernel
theorem dX9_append_31 : decode cX9_append 31 = .ok (.getfield 56, 3) := by decide +kernel
theorem dX9_append_34 : decode cX9_append 34 = .ok (.iload_n 1, 1) := by decide +kernel
theorem dX9_append_35 : decode cX9_append 35 = .ok (.iastore, 1) := by decide +kernel
theorem dX9_append_36 : decode cX9_append 36 = .ok (.aload_n 0, 1) := by decide +kernel
theorem dX9_append_37 : decode cX9_append 37 = .ok (.dup, 1) := by decide +kernel
theorem dX9_append_38 : decode cX9_append 38 = .ok (.getfield 56, 3) := by decide +kernel
theorem dX9_append_41 : decode cX9_append 41 = .ok (.iconst 1, 1) := by decide +kernel
theorem dX9_append_42 : decode cX9_append 42 = .ok (.iadd, 1) := by decide +kernel
theorem dX9_append_43 : decode cX9_append 43 = .ok (.putfield 56, 3) := by decide +kernel
theorem dX9_append_46 : decode cX9_append 46 = .ok (.aload_n 0, 1) := by decide +kernel
theorem dX9_append_47 : decode cX9_append 47 = .ok (.getfield 56, 3) := by decide +kernel
theorem dX9_append_50 : decode cX9_append 50 = .ok (.ireturn, 1) := by decide +kernel
theorem dX9_clear_0 : decode cX9_clear 0 = .ok (.aload_n 0, 1) := by decide +kernel
theorem dX9_clear_1 : decode cX9_clear 1 = .ok (.getfield 56, 3) := by decide +kernel
theorem dX9_clear_4 : decode cX9_clear 4 = .ok (.istore_n 1, 1) := by decide +kernel
theorem dX9_clear_5 : decode cX9_clear 5 = .ok (.aload_n 0, 1) := by decide +kernel
theorem dX9_clear_6 : decode cX9_clear 6 = .ok (.iconst 0, 1) := by decide +kernel
theorem dX9_clear_7 : decode cX9_clear 7 = .ok (.putfield 56, 3) := by decide +kernel
theorem dX9_clear_10 : decode cX9_clear 10 = .ok (.iload_n 1, 1) := by decide +kernel
theorem dX9_clear_11 : decode cX9_clear 11 = .ok (.ireturn, 1) := by decide +kernel
theorem dX9_addSaying_0 : decode cX9_addSaying 0 = .ok (.iload_n 1, 1) := by decide +kernel
theorem dX9_addSaying_1 : decode cX9_addSaying 1 = .ok (.i2l, 1) := by decide +kernel
theorem dX9_addSaying_2 : decode cX9_addSaying 2 = .ok (.ldc2_w 59, 3) := by decide +kernel
theorem dX9_addSaying_5 : decode cX9_addSaying 5 = .ok (.ldc2_w 61, 3) := by decide +kernel
theorem dX9_addSaying_8 : decode cX9_addSaying 8 = .ok (.invokestatic 50, 3) := by decide +kernel
theorem dX9_addSaying_11 : decode cX9_addSaying 11 = .ok (.ifCond .eq 15, 3) := by decide +kernel
theorem dX9_addSaying_14 : decode cX9_addSaying 14 = .ok (.iload_n 2, 1) := by decide +kernel
theorem dX9_addSaying_15 : decode cX9_addSaying 15 = .ok (.i2l, 1) := by decide +kernel
theorem dX9_addSaying_16 : decode cX9_addSaying 16 = .ok (.lconst 0, 1) := by decide +kernel
theorem dX9_addSaying_17 : decode cX9_addSaying 17 = .ok (.ldc2_w 63, 3) := by decide +kernel
theorem dX9_addSaying_20 : decode cX9_addSaying 20 = .ok (.invokestatic 50, 3) := by decide +kernel
theorem dX9_addSaying_23 : decode cX9_addSaying 23 = .ok (.ifCond .ne 5, 3) := by decide +kernel
theorem dX9_addSaying_26 : decode cX9_addSaying 26 = .ok (.iconst (-1), 1) := by decide +kernel
theorem dX9_addSaying_27 : decode cX9_addSaying 27 = .ok (.ireturn, 1) := by decide +kernel
theorem dX9_addSaying_28 : decode cX9_addSaying 28 = .ok (.aload_n 0, 1) := by decide +kernel
theorem dX9_addSaying_29 : decode cX9_addSaying 29 = .ok (.getfield 56, 3) := by decide +kernel
theorem dX9_addSaying_32 : decode cX9_addSaying 32 = .ok (.ifCond .le 7, 3) := by decide +kernel
theorem dX9_addSaying_35 : decode cX9_addSaying 35 = .ok (.iconst 1, 1) := by decide +kernel
theorem dX9_addSaying_36 : decode cX9_addSaying 36 = .ok (.goto 4, 3) := by decide +kernel
theorem dX9_addSaying_39 : decode cX9_addSaying 39 = .ok (.iconst 0, 1) := by decide +kernel
theorem dX9_addSaying_40 : decode cX9_addSaying 40 = .ok (.istore_n 3, 1) := by decide +kernel
theorem dX9_addSaying_41 : decode cX9_addSaying 41 = .ok (.iconst 0, 1) := by decide +kernel
theorem dX9_addSaying_42 : decode cX9_addSaying 42 = .ok (.istore 4, 2) := by decide +kernel
theorem dX9_addSaying_44 : decode cX9_addSaying 44 = .ok (.iload 4, 2) := by decide +kernel
theorem dX9_addSaying_46 : decode cX9_addSaying 46 = .ok (.aload_n 0, 1) := by decide +kernel
theorem dX9_addSaying_47 : decode cX9_addSaying 47 = .ok (.getfield 56, 3) := by decide +kernel
theorem dX9_addSaying_50 : decode cX9_addSaying 50 = .ok (.if_icmp .ge 31, 3) := by decide +kernel
theorem dX9_addSaying_53 : decode cX9_addSaying 53 = .ok (.iload_n 3, 1) := by decide +kernel
theorem dX9_addSaying_54 : decode cX9_addSaying 54 = .ok (.ifCond .eq 19, 3) := by decide +kernel
theorem dX9_addSaying_57 : decode cX9_addSaying 57 = .ok (.aload_n 0, 1) := by decide +kernel
theorem dX9_addSaying_58 : decode cX9_addSaying 58 = .ok (.getfield 16, 3) := by decide +kernel
theorem dX9_addSaying_61 : decode cX9_addSaying 61 = .ok (.iload 4, 2) := by decide +kernel
theorem dX9_addSaying_63 : decode cX9_addSaying 63 = .ok (.iaload, 1) := by decide +kernel
theorem dX9_addSaying_64 : decode cX9_addSaying 64 = .ok (.bipush 60, 2) := by decide +kernel
theorem dX9_addSaying_66 : decode cX9_addSaying 66 = .ok (.if_icmp .ge 7, 3) := by decide +kernel
theorem dX9_addSaying_69 : decode cX9_addSaying 69 = .ok (.iconst 1, 1) := by decide +kernel
theorem dX9_addSaying_70 : decode cX9_addSaying 70 = .ok (.goto 4, 3) := by decide +kernel
theorem dX9_addSaying_73 : decode cX9_addSaying 73 = .ok (.iconst 0, 1) := by decide +kernel
theorem dX9_addSaying_74 : decode cX9_addSaying 74 = .ok (.istore_n 3, 1) := by decide +kernel
theorem dX9_addSaying_75 : decode cX9_addSaying 75 = .ok (.iinc 4 1, 3) := by decide +kernel
theorem dX9_addSaying_78 : decode cX9_addSaying 78 = .ok (.goto (-34), 3) := by decide +kernel
theorem dX9_addSaying_81 : decode cX9_addSaying 81 = .ok (.iload_n 3, 1) := by decide +kernel
theorem dX9_addSaying_82 : decode cX9_addSaying 82 = .ok (.ifCond .ne 6, 3) := by decide +kernel
theorem dX9_addSaying_85 : decode cX9_addSaying 85 = .ok (.bipush (-2), 2) := by decide +kernel
theorem dX9_addSaying_87 : decode cX9_addSaying 87 = .ok (.ireturn, 1) := by decide +kernel
theorem dX9_addSaying_88 : decode cX9_addSaying 88 = .ok (.aload_n 0, 1) := by decide +kernel
theorem dX9_addSaying_89 : decode cX9_addSaying 89 = .ok (.getfield 7, 3) := by decide +kernel
theorem dX9_addSaying_92 : decode cX9_addSaying 92 = .ok (.iconst 0, 1) := by decide +kernel
theorem dX9_addSaying_93 : decode cX9_addSaying 93 = .ok (.iaload, 1) := by decide +kernel
theorem dX9_addSaying_94 : decode cX9_addSaying 94 = .ok (.bipush 12, 2) := by decide +kernel
theorem dX9_addSaying_96 : decode cX9_addSaying 96 = .ok (.if_icmp .ne 6, 3) := by decide +kernel
theorem dX9_addSaying_99 : decode cX9_addSaying 99 = .ok (.bipush (-3), 2) := by decide +kernel
theorem dX9_addSaying_101 : decode cX9_addSaying 101 = .ok (.ireturn, 1) := by decide +kernel
theorem dX9_addSaying_102 : decode cX9_addSaying 102 = .ok (.aload_n 0, 1) := by decide +kernel
theorem dX9_addSaying_103 : decode cX9_addSaying 103 = .ok (.invokevirtual 65, 3) := by decide +kernel
theorem dX9_addSaying_106 : decode cX9_addSaying 106 = .ok (.aload_n 0, 1) := by decide +kernel
theorem dX9_addSaying_107 : decode cX9_addSaying 107 = .ok (.getfield 7, 3) := by decide +kernel
theorem dX9_addSaying_110 : decode cX9_addSaying 110 = .ok (.iconst 0, 1) := by decide +kernel
theorem dX9_addSaying_111 : decode cX9_addSaying 111 = .ok (.iaload, 1) := by decide +kernel
theorem dX9_addSaying_112 : decode cX9_addSaying 112 = .ok (.istore 4, 2) := by decide +kernel
theorem dX9_addSaying_114 : decode cX9_addSaying 114 = .ok (.aload_n 0, 1) := by decide +kernel
theorem dX9_addSaying_115 : decode cX9_addSaying 115 = .ok (.getfield 7, 3) := by decide +kernel
theorem dX9_addSaying_118 : decode cX9_addSaying 118 = .ok (.iconst 0, 1) := by decide +kernel
theorem dX9_addSaying_119 : decode cX9_addSaying 119 = .ok (.dup2, 1) := by decide +kernel
theorem dX9_addSaying_120 : decode cX9_addSaying 120 = .ok (.iaload, 1) := by decide +kernel
theorem dX9_addSaying_121 : decode cX9_addSaying 121 = .ok (.iconst 1, 1) := by decide +kernel
theorem dX9_addSaying_122 : decode cX9_addSaying 122 = .ok (.iadd, 1) := by decide +kernel
theorem dX9_addSaying_123 : decode cX9_addSaying 123 = .ok (.iastore, 1) := by decide +kernel
theorem dX9_addSaying_124 : decode cX9_addSaying 124 = .ok (.aload_n 0, 1) := by decide +kernel
theorem dX9_addSaying_125 : decode cX9_addSaying 125 = .ok (.getfield 7, 3) := by decide +kernel
theorem dX9_addSaying_128 : decode cX9_addSaying 128 = .ok (.iconst 1, 1) := by decide +kernel
theorem dX9_addSaying_129 : decode cX9_addSaying 129 = .ok (.iload 4, 2) := by decide +kernel
theorem dX9_addSaying_131 : decode cX9_addSaying 131 = .ok (.iadd, 1) := by decide +kernel
theorem dX9_addSaying_132 : decode cX9_addSaying 132 = .ok (.aload_n 0, 1) := by decide +kernel
theorem dX9_addSaying_133 : decode cX9_addSaying 133 = .ok (.getfield 56, 3) := by decide +kernel
theorem dX9_addSaying_136 : decode cX9_addSaying 136 = .ok (.iastore, 1) := by decide +kernel
theorem dX9_addSaying_137 : decode cX9_addSaying 137 = .ok (.aload_n 0, 1) := by decide +kernel
theorem dX9_addSaying_138 : decode cX9_addSaying 138 = .ok (.getfield 7, 3) := by decide +kernel
theorem dX9_addSaying_141 : decode cX9_addSaying 141 = .ok (.bipush 109, 2) := by decide +kernel
theorem dX9_addSaying_143 : decode cX9_addSaying 143 = .ok (.iload 4, 2) := by decide +kernel
theorem dX9_addSaying_145 : decode cX9_addSaying 145 = .ok (.iadd, 1) := by decide +kernel
theorem dX9_addSaying_146 : decode cX9_addSaying 146 = .ok (.iload_n 1, 1) := by decide +kernel
theorem dX9_addSaying_147 : decode cX9_addSaying 147 = .ok (.iastore, 1) := by decide +kernel
theorem dX9_addSaying_148 : decode cX9_addSaying 148 = .ok (.aload_n 0, 1) := by decide +kernel
theorem dX9_addSaying_149 : decode cX9_addSaying 149 = .ok (.getfield 7, 3) := by decide +kernel
theorem dX9_addSaying_152 : decode cX9_addSaying 152 = .ok (.bipush 121, 2) := by decide +kernel
theorem dX9_addSaying_154 : decode cX9_addSaying 154 = .ok (.iload 4, 2) := by decide +kernel
theorem dX9_addSaying_156 : decode cX9_addSaying 156 = .ok (.iadd, 1) := by decide +kernel
theorem dX9_addSaying_157 : decode cX9_addSaying 157 = .ok (.iload_n 2, 1) := by decide +kernel
theorem dX9_addSaying_158 : decode cX9_addSaying 158 = .ok (.iastore, 1) := by decide +kernel
theorem dX9_addSaying_159 : decode cX9_addSaying 159 = .ok (.iconst 0, 1) := by decide +kernel
theorem dX9_addSaying_160 : decode cX9_addSaying 160 = .ok (.istore 5, 2) := by decide +kernel
theorem dX9_addSaying_162 : decode cX9_addSaying 162 = .ok (.iload 5, 2) := by decide +kernel
theorem dX9_addSaying_164 : decode cX9_addSaying 164 = .ok (.aload_n 0, 1) := by decide +kernel
theorem dX9_addSaying_165 : decode cX9_addSaying 165 = .ok (.getfield 56, 3) := by decide +kernel
theorem dX9_addSaying_168 : decode cX9_addSaying 168 = .ok (.if_icmp .ge 32, 3) := by decide +kernel
theorem dX9_addSaying_171 : decode cX9_addSaying 171 = .ok (.aload_n 0, 1) := by decide +kernel
theorem dX9_addSaying_172 : decode cX9_addSaying 172 = .ok (.getfield 7, 3) := by decide +kernel
theorem dX9_addSaying_175 : decode cX9_addSaying 175 = .ok (.bipush 13, 2) := by decide +kernel
theorem dX9_addSaying_177 : decode cX9_addSaying 177 = .ok (.bipush 8, 2) := by decide +kernel
theorem dX9_addSaying_179 : decode cX9_addSaying 179 = .ok (.iload 4, 2) := by decide +kernel
theorem dX9_addSaying_181 : decode cX9_addSaying 181 = .ok (.imul, 1) := by decide +kernel
theorem dX9_addSaying_182 : decode cX9_addSaying 182 = .ok (.iadd, 1) := by decide +kernel
theorem dX9_addSaying_183 : decode cX9_addSaying 183 = .ok (.iload 5, 2) := by decide +kernel
theorem dX9_addSaying_185 : decode cX9_addSaying 185 = .ok (.iadd, 1) := by decide +kernel
theorem dX9_addSaying_186 : decode cX9_addSaying 186 = .ok (.aload_n 0, 1) := by decide +kernel
theorem dX9_addSaying_187 : decode cX9_addSaying 187 = .ok (.getfield 16, 3) := by decide +kernel
theorem dX9_addSaying_190 : decode cX9_addSaying 190 = .ok (.iload 5, 2) := by decide +kernel
theorem dX9_addSaying_192 : decode cX9_addSaying 192 = .ok (.iaload, 1) := by decide +kernel
theorem dX9_addSaying_193 : decode cX9_addSaying 193 = .ok (.iastore, 1) := by decide +kernel
theorem dX9_addSaying_194 : decode cX9_addSaying 194 = .ok (.iinc 5 1, 3) := by decide +kernel
theorem dX9_addSaying_197 : decode cX9_addSaying 197 = .ok (.goto (-35), 3) := by decide +kernel
theorem dX9_addSaying_200 : decode cX9_addSaying 200 = .ok (.aload_n 0, 1) := by decide +kernel
theorem dX9_addSaying_201 : decode cX9_addSaying 201 = .ok (.iconst 0, 1) := by decide +kernel
theorem dX9_addSaying_202 : decode cX9_addSaying 202 = .ok (.putfield 56, 3) := by decide +kernel
theorem dX9_addSaying_205 : decode cX9_addSaying 205 = .ok (.iload 4, 2) := by decide +kernel
theorem dX9_addSaying_207 : decode cX9_addSaying 207 = .ok (.ireturn, 1) := by decide +kernel
theorem dX9_removeSaying_0 : decode cX9_removeSaying 0 = .ok (.aload_n 0, 1) := by decide +kernel
theorem dX9_removeSaying_1 : decode cX9_removeSaying 1 = .ok (.iload_n 1, 1) := by decide +kernel
theorem dX9_removeSaying_2 : decode cX9_removeSaying 2 = .ok (.invokevirtual 68, 3) := by decide +kernel
theorem dX9_removeSaying_5 : decode cX9_removeSaying 5 = .ok (.ifCond .ne 5, 3) := by decide +kernel
theorem dX9_removeSaying_8 : decode cX9_removeSaying 8 = .ok (.iconst (-1), 1) := by decide +kernel
theorem dX9_removeSaying_9 : decode cX9_removeSaying 9 = .ok (.ireturn, 1) := by decide +kernel
theorem dX9_removeSaying_10 : decode cX9_removeSaying 10 = .ok (.aload_n 0, 1) := by decide +kernel
theorem dX9_removeSaying_11 : decode cX9_removeSaying 11 = .ok (.invokevirtual 65, 3) := by decide +kernel
theorem dX9_removeSaying_14 : decode cX9_removeSaying 14 = .ok (.aload_n 0, 1) := by decide +kernel
theorem dX9_removeSaying_15 : decode cX9_removeSaying 15 = .ok (.getfield 7, 3) := by decide +kernel
theorem dX9_removeSaying_18 : decode cX9_removeSaying 18 = .ok (.iconst 0, 1) := by decide +kernel
theorem dX9_removeSaying_19 : decode cX9_removeSaying 19 = .ok (.dup2, 1) := by decide +kernel
theorem dX9_removeSaying_20 : decode cX9_removeSaying 20 = .ok (.iaload, 1) := by decide +kernel
theorem dX9_removeSaying_21 : decode cX9_removeSaying 21 = .ok (.iconst 1, 1) := by decide +kernel
theorem dX9_removeSaying_22 : decode cX9_removeSaying 22 = .ok (.isub, 1) := by decide +kernel
theorem dX9_removeSaying_23 : decode cX9_removeSaying 23 = .ok (.iastore, 1) := by decide +kernel
theorem dX9_removeSaying_24 : decode cX9_removeSaying 24 = .ok (.iload_n 1, 1) := by decide +kernel
theorem dX9_removeSaying_25 : decode cX9_removeSaying 25 = .ok (.istore_n 2, 1) := by decide +kernel
theorem dX9_removeSaying_26 : decode cX9_removeSaying 26 = .ok (.iload_n 2, 1) := by decide +kernel
theorem dX9_removeSaying_27 : decode cX9_removeSaying 27 = .ok (.aload_n 0, 1) := by decide +kernel
theorem dX9_removeSaying_28 : decode cX9_removeSaying 28 = .ok (.getfield 7, 3) := by decide +kernel
theorem dX9_removeSaying_31 : decode cX9_removeSaying 31 = .ok (.iconst 0, 1) := by decide +kernel
theorem dX9_removeSaying_32 : decode cX9_removeSaying 32 = .ok (.iaload, 1) := by decide +kernel
theorem dX9_removeSaying_33 : decode cX9_removeSaying 33 = .ok (.if_icmp .ge 112, 3) := by decide +kernel
theorem dX9_removeSaying_36 : decode cX9_removeSaying 36 = .ok (.aload_n 0, 1) := by decide +kernel
theorem dX9_removeSaying_37 : decode cX9_removeSaying 37 = .ok (.getfield 7, 3) := by decide +kernel
theorem dX9_removeSaying_40 : decode cX9_removeSaying 40 = .ok (.iconst 1, 1) := by decide +kernel
theorem dX9_removeSaying_41 : decode cX9_removeSaying 41 = .ok (.iload_n 2, 1) := by decide +kernel
theorem dX9_removeSaying_42 : decode cX9_removeSaying 42 = .ok (.iadd, 1) := by decide +kernel
theorem dX9_removeSaying_43 : decode cX9_removeSaying 43 = .ok (.aload_n 0, 1) := by decide +kernel
theorem dX9_removeSaying_44 : decode cX9_removeSaying 44 = .ok (.getfield 7, 3) := by decide +kernel
theorem dX9_removeSaying_47 : decode cX9_removeSaying 47 = .ok (.iconst 1, 1) := by decide +kernel
theorem dX9_removeSaying_48 : decode cX9_removeSaying 48 = .ok (.iload_n 2, 1) := by decide +kernel
theorem dX9_removeSaying_49 : decode cX9_removeSaying 49 = .ok (.iadd, 1) := by decide +kernel
theorem dX9_removeSaying_50 : decode cX9_removeSaying 50 = .ok (.iconst 1, 1) := by decide +kernel
theorem dX9_removeSaying_51 : decode cX9_removeSaying 51 = .ok (.iadd, 1) := by decide +kernel
theorem dX9_removeSaying_52 : decode cX9_removeSaying 52 = .ok (.iaload, 1) := by decide +kernel
theorem dX9_removeSaying_53 : decode cX9_removeSaying 53 = .ok (.iastore, 1) := by decide +kernel
theorem dX9_removeSaying_54 : decode cX9_removeSaying 54 = .ok (.aload_n 0, 1) := by decide +kernel
theorem dX9_removeSaying_55 : decode cX9_removeSaying 55 = .ok (.getfield 7, 3) := by decide +kernel
theorem dX9_removeSaying_58 : decode cX9_removeSaying 58 = .ok (.bipush 109, 2) := by decide +kernel
theorem dX9_removeSaying_60 : decode cX9_removeSaying 60 = .ok (.iload_n 2, 1) := by decide +kernel
theorem dX9_removeSaying_61 : decode cX9_removeSaying 61 = .ok (.iadd, 1) := by decide +kernel
theorem dX9_removeSaying_62 : decode cX9_removeSaying 62 = .ok (.aload_n 0, 1) := by decide +kernel
theorem dX9_removeSaying_63 : decode cX9_removeSaying 63 = .ok (.getfield 7, 3) := by decide +kernel
theorem dX9_removeSaying_66 : decode cX9_removeSaying 66 = .ok (.bipush 109, 2) := by decide +kernel
theorem dX9_removeSaying_68 : decode cX9_removeSaying 68 = .ok (.iload_n 2, 1) := by decide +kernel
theorem dX9_removeSaying_69 : decode cX9_removeSaying 69 = .ok (.iadd, 1) := by decide +kernel
theorem dX9_removeSaying_70 : decode cX9_removeSaying 70 = .ok (.iconst 1, 1) := by decide +kernel
theorem dX9_removeSaying_71 : decode cX9_removeSaying 71 = .ok (.iadd, 1) := by decide +kernel
theorem dX9_removeSaying_72 : decode cX9_removeSaying 72 = .ok (.iaload, 1) := by decide +kernel
theorem dX9_removeSaying_73 : decode cX9_removeSaying 73 = .ok (.iastore, 1) := by decide +kernel
theorem dX9_removeSaying_74 : decode cX9_removeSaying 74 = .ok (.aload_n 0, 1) := by decide +kernel
theorem dX9_removeSaying_75 : decode cX9_removeSaying 75 = .ok (.getfield 7, 3) := by decide +kernel
theorem dX9_removeSaying_78 : decode cX9_removeSaying 78 = .ok (.bipush 121, 2) := by decide +kernel
theorem dX9_removeSaying_80 : decode cX9_removeSaying 80 = .ok (.iload_n 2, 1) := by decide +kernel
theorem dX9_removeSaying_81 : decode cX9_removeSaying 81 = .ok (.iadd, 1) := by decide +kernel
theorem dX9_removeSaying_82 : decode cX9_removeSaying 82 = .ok (.aload_n 0, 1) := by decide +kernel
theorem dX9_removeSaying_83 : decode cX9_removeSaying 83 = .ok (.getfield 7, 3) := by decide +kernel
theorem dX9_removeSaying_86 : decode cX9_removeSaying 86 = .ok (.bipush 121, 2) := by decide +kernel
theorem dX9_removeSaying_88 : decode cX9_removeSaying 88 = .ok (.iload_n 2, 1) := by decide +kernel
theorem dX9_removeSaying_89 : decode cX9_removeSaying 89 = .ok (.iadd, 1) := by decide +kernel
theorem dX9_removeSaying_90 : decode cX9_removeSaying 90 = .ok (.iconst 1, 1) := by decide +kernel
theorem dX9_removeSaying_91 : decode cX9_removeSaying 91 = .ok (.iadd, 1) := by decide +kernel
theorem dX9_removeSaying_92 : decode cX9_removeSaying 92 = .ok (.iaload, 1) := by decide +kernel
theorem dX9_removeSaying_93 : decode cX9_removeSaying 93 = .ok (.iastore, 1) := by decide +kernel
theorem dX9_removeSaying_94 : decode cX9_removeSaying 94 = .ok (.iconst 0, 1) := by decide +kernel
theorem dX9_removeSaying_95 : decode cX9_removeSaying 95 = .ok (.istore_n 3, 1) := by decide +kernel
theorem dX9_removeSaying_96 : decode cX9_removeSaying 96 = .ok (.iload_n 3, 1) := by decide +kernel
theorem dX9_removeSaying_97 : decode cX9_removeSaying 97 = .ok (.bipush 8, 2) := by decide +kernel
theorem dX9_removeSaying_99 : decode cX9_removeSaying 99 = .ok (.if_icmp .ge 40, 3) := by decide +kernel
theorem dX9_removeSaying_102 : decode cX9_removeSaying 102 = .ok (.aload_n 0, 1) := by decide +kernel
theorem dX9_removeSaying_103 : decode cX9_removeSaying 103 = .ok (.getfield 7, 3) := by decide +kernel
theorem dX9_removeSaying_106 : decode cX9_removeSaying 106 = .ok (.bipush 13, 2) := by decide +kernel
theorem dX9_removeSaying_108 : decode cX9_removeSaying 108 = .ok (.bipush 8, 2) := by decide +kernel
theorem dX9_removeSaying_110 : decode cX9_removeSaying 110 = .ok (.iload_n 2, 1) := by decide +kernel
theorem dX9_removeSaying_111 : decode cX9_removeSaying 111 = .ok (.imul, 1) := by decide +kernel
theorem dX9_removeSaying_112 : decode cX9_removeSaying 112 = .ok (.iadd, 1) := by decide +kernel
theorem dX9_removeSaying_113 : decode cX9_removeSaying 113 = .ok (.iload_n 3, 1) := by decide +kernel
theorem dX9_removeSaying_114 : decode cX9_removeSaying 114 = .ok (.iadd, 1) := by decide +kernel
theorem dX9_removeSaying_115 : decode cX9_removeSaying 115 = .ok (.aload_n 0, 1) := by decide +kernel
theorem dX9_removeSaying_116 : decode cX9_removeSaying 116 = .ok (.getfield 7, 3) := by decide +kernel
theorem dX9_removeSaying_119 : decode cX9_removeSaying 119 = .ok (.bipush 13, 2) := by decide +kernel
theorem dX9_removeSaying_121 : decode cX9_removeSaying 121 = .ok (.bipush 8, 2) := by decide +kernel
theorem dX9_removeSaying_123 : decode cX9_removeSaying 123 = .ok (.iload_n 2, 1) := by decide +kernel
theorem dX9_removeSaying_124 : decode cX9_removeSaying 124 = .ok (.imul, 1) := by decide +kernel
theorem dX9_removeSaying_125 : decode cX9_removeSaying 125 = .ok (.iadd, 1) := by decide +kernel
theorem dX9_removeSaying_126 : decode cX9_removeSaying 126 = .ok (.bipush 8, 2) := by decide +kernel
theorem dX9_removeSaying_128 : decode cX9_removeSaying 128 = .ok (.iadd, 1) := by decide +kernel
theorem dX9_removeSaying_129 : decode cX9_removeSaying 129 = .ok (.iload_n 3, 1) := by decide +kernel
theorem dX9_removeSaying_130 : decode cX9_removeSaying 130 = .ok (.iadd, 1) := by decide +kernel
theorem dX9_removeSaying_131 : decode cX9_removeSaying 131 = .ok (.iaload, 1) := by decide +kernel
theorem dX9_removeSaying_132 : decode cX9_removeSaying 132 = .ok (.iastore, 1) := by decide +kernel
theorem dX9_removeSaying_133 : decode cX9_removeSaying 133 = .ok (.iinc 3 1, 3) := by decide +kernel
theorem dX9_removeSaying_136 : decode cX9_removeSaying 136 = .ok (.goto (-40), 3) := by decide +kernel
theorem dX9_removeSaying_139 : decode cX9_removeSaying 139 = .ok (.iinc 2 1, 3) := by decide +kernel
theorem dX9_removeSaying_142 : decode cX9_removeSaying 142 = .ok (.goto (-116), 3) := by decide +kernel
theorem dX9_removeSaying_145 : decode cX9_removeSaying 145 = .ok (.aload_n 0, 1) := by decide +kernel
theorem dX9_removeSaying_146 : decode cX9_removeSaying 146 = .ok (.getfield 7, 3) := by decide +kernel
theorem dX9_removeSaying_149 : decode cX9_removeSaying 149 = .ok (.iconst 0, 1) := by decide +kernel
theorem dX9_removeSaying_150 : decode cX9_removeSaying 150 = .ok (.iaload, 1) := by decide +kernel
theorem dX9_removeSaying_151 : decode cX9_removeSaying 151 = .ok (.ireturn, 1) := by decide +kernel
theorem dX9_sayingCount_0 : decode cX9_sayingCount 0 = .ok (.aload_n 0, 1) := by decide +kernel
theorem dX9_sayingCount_1 : decode cX9_sayingCount 1 = .ok (.getfield 7, 3) := by decide +kernel
theorem dX9_sayingCount_4 : decode cX9_sayingCount 4 = .ok (.iconst 0, 1) := by decide +kernel
theorem dX9_sayingCount_5 : decode cX9_sayingCount 5 = .ok (.iaload, 1) := by decide +kernel
theorem dX9_sayingCount_6 : decode cX9_sayingCount 6 = .ok (.ireturn, 1) := by decide +kernel
theorem dX9_lengthOf_0 : decode cX9_lengthOf 0 = .ok (.aload_n 0, 1) := by decide +kernel
theorem dX9_lengthOf_1 : decode cX9_lengthOf 1 = .ok (.iload_n 1, 1) := by decide +kernel
theorem dX9_lengthOf_2 : decode cX9_lengthOf 2 = .ok (.invokevirtual 68, 3) := by decide +kernel
theorem dX9_lengthOf_5 : decode cX9_lengthOf 5 = .ok (.ifCond .eq 14, 3) := by decide +kernel
theorem dX9_lengthOf_8 : decode cX9_lengthOf 8 = .ok (.aload_n 0, 1) := by decide +kernel
theorem dX9_lengthOf_9 : decode cX9_lengthOf 9 = .ok (.getfield 7, 3) := by decide +kernel
theorem dX9_lengthOf_12 : decode cX9_lengthOf 12 = .ok (.iconst 1, 1) := by decide +kernel
theorem dX9_lengthOf_13 : decode cX9_lengthOf 13 = .ok (.iload_n 1, 1) := by decide +kernel
theorem dX9_lengthOf_14 : decode cX9_lengthOf 14 = .ok (.iadd, 1) := by decide +kernel
theorem dX9_lengthOf_15 : decode cX9_lengthOf 15 = .ok (.iaload, 1) := by decide +kernel
theorem dX9_lengthOf_16 : decode cX9_lengthOf 16 = .ok (.goto 4, 3) := by decide +kernel
theorem dX9_lengthOf_19 : decode cX9_lengthOf 19 = .ok (.iconst (-1), 1) := by decide +kernel
theorem dX9_lengthOf_20 : decode cX9_lengthOf 20 = .ok (.ireturn, 1) := by decide +kernel
theorem dX9_wordAt_0 : decode cX9_wordAt 0 = .ok (.aload_n 0, 1) := by decide +kernel
theorem dX9_wordAt_1 : decode cX9_wordAt 1 = .ok (.iload_n 1, 1) := by decide +kernel
theorem dX9_wordAt_2 : decode cX9_wordAt 2 = .ok (.invokevirtual 68, 3) := by decide +kernel
theorem dX9_wordAt_5 : decode cX9_wordAt 5 = .ok (.ifCond .eq 7, 3) := by decide +kernel
theorem dX9_wordAt_8 : decode cX9_wordAt 8 = .ok (.iload_n 2, 1) := by decide +kernel
theorem dX9_wordAt_9 : decode cX9_wordAt 9 = .ok (.ifCond .ge 5, 3) := by decide +kernel
theorem dX9_wordAt_12 : decode cX9_wordAt 12 = .ok (.iconst (-1), 1) := by decide +kernel
theorem dX9_wordAt_13 : decode cX9_wordAt 13 = .ok (.ireturn, 1) := by decide +kernel
theorem dX9_wordAt_14 : decode cX9_wordAt 14 = .ok (.iload_n 2, 1) := by decide +kernel
theorem dX9_wordAt_15 : decode cX9_wordAt 15 = .ok (.aload_n 0, 1) := by decide +kernel
theorem dX9_wordAt_16 : decode cX9_wordAt 16 = .ok (.getfield 7, 3) := by decide +kernel
theorem dX9_wordAt_19 : decode cX9_wordAt 19 = .ok (.iconst 1, 1) := by decide +kernel
theorem dX9_wordAt_20 : decode cX9_wordAt 20 = .ok (.iload_n 1, 1) := by decide +kernel
theorem dX9_wordAt_21 : decode cX9_wordAt 21 = .ok (.iadd, 1) := by decide +kernel
theorem dX9_wordAt_22 : decode cX9_wordAt 22 = .ok (.iaload, 1) := by decide +kernel
theorem dX9_wordAt_23 : decode cX9_wordAt 23 = .ok (.if_icmp .ge 20, 3) := by decide +kernel
theorem dX9_wordAt_26 : decode cX9_wordAt 26 = .ok (.aload_n 0, 1) := by decide +kernel
theorem dX9_wordAt_27 : decode cX9_wordAt 27 = .ok (.getfield 7, 3) := by decide +kernel
theorem dX9_wordAt_30 : decode cX9_wordAt 30 = .ok (.bipush 13, 2) := by decide +kernel
theorem dX9_wordAt_32 : decode cX9_wordAt 32 = .ok (.bipush 8, 2) := by decide +kernel
theorem dX9_wordAt_34 : decode cX9_wordAt 34 = .ok (.iload_n 1, 1) := by decide +kernel
theorem dX9_wordAt_35 : decode cX9_wordAt 35 = .ok (.imul, 1) := by decide +kernel
theorem dX9_wordAt_36 : decode cX9_wordAt 36 = .ok (.iadd, 1) := by decide +kernel
theorem dX9_wordAt_37 : decode cX9_wordAt 37 = .ok (.iload_n 2, 1) := by decide +kernel
theorem dX9_wordAt_38 : decode cX9_wordAt 38 = .ok (.iadd, 1) := by decide +kernel
theorem dX9_wordAt_39 : decode cX9_wordAt 39 = .ok (.iaload, 1) := by decide +kernel
theorem dX9_wordAt_40 : decode cX9_wordAt 40 = .ok (.goto 5, 3) := by decide +kernel
theorem dX9_wordAt_43 : decode cX9_wordAt 43 = .ok (.bipush (-4), 2) := by decide +kernel
theorem dX9_wordAt_45 : decode cX9_wordAt 45 = .ok (.ireturn, 1) := by decide +kernel
theorem dX9_isOlder_0 : decode cX9_isOlder 0 = .ok (.aload_n 0, 1) := by decide +kernel
theorem dX9_isOlder_1 : decode cX9_isOlder 1 = .ok (.getfield 7, 3) := by decide +kernel
theorem dX9_isOlder_4 : decode cX9_isOlder 4 = .ok (.bipush 109, 2) := by decide +kernel
theorem dX9_isOlder_6 : decode cX9_isOlder 6 = .ok (.iload_n 1, 1) := by decide +kernel
theorem dX9_isOlder_7 : decode cX9_isOlder 7 = .ok (.iadd, 1) := by decide +kernel
theorem dX9_isOlder_8 : decode cX9_isOlder 8 = .ok (.iaload, 1) := by decide +kernel
theorem dX9_isOlder_9 : decode cX9_isOlder 9 = .ok (.aload_n 0, 1) := by decide +kernel
theorem dX9_isOlder_10 : decode cX9_isOlder 10 = .ok (.getfield 7, 3) := by decide +kernel
theorem dX9_isOlder_13 : decode cX9_isOlder 13 = .ok (.bipush 109, 2) := by decide +kernel
theorem dX9_isOlder_15 : decode cX9_isOlder 15 = .ok (.iload_n 2, 1) := by decide +kernel
theorem dX9_isOlder_16 : decode cX9_isOlder 16 = .ok (.iadd, 1) := by decide +kernel
theorem dX9_isOlder_17 : decode cX9_isOlder 17 = .ok (.iaload, 1) := by decide +kernel
theorem dX9_isOlder_18 : decode cX9_isOlder 18 = .ok (.if_icmp .lt 29, 3) := by decide +kernel
theorem dX9_isOlder_21 : decode cX9_isOlder 21 = .ok (.aload_n 0, 1) := by decide +kernel
theorem dX9_isOlder_22 : decode cX9_isOlder 22 = .ok (.getfield 7, 3) := by decide +kernel
theorem dX9_isOlder_25 : decode cX9_isOlder 25 = .ok (.bipush 109, 2) := by decide +kernel
theorem dX9_isOlder_27 : decode cX9_isOlder 27 = .ok (.iload_n 1, 1) := by decide +kernel
theorem dX9_isOlder_28 : decode cX9_isOlder 28 = .ok (.iadd, 1) := by decide +kernel
theorem dX9_isOlder_29 : decode cX9_isOlder 29 = .ok (.iaload, 1) := by decide +kernel
theorem dX9_isOlder_30 : decode cX9_isOlder 30 = .ok (.aload_n 0, 1) := by decide +kernel
theorem dX9_isOlder_31 : decode cX9_isOlder 31 = .ok (.getfield 7, 3) := by decide +kernel
theorem dX9_isOlder_34 : decode cX9_isOlder 34 = .ok (.bipush 109, 2) := by decide +kernel
theorem dX9_isOlder_36 : decode cX9_isOlder 36 = .ok (.iload_n 2, 1) := by decide +kernel
theorem dX9_isOlder_37 : decode cX9_isOlder 37 = .ok (.iadd, 1) := by decide +kernel
theorem dX9_isOlder_38 : decode cX9_isOlder 38 = .ok (.iaload, 1) := by decide +kernel
theorem dX9_isOlder_39 : decode cX9_isOlder 39 = .ok (.if_icmp .ne 12, 3) := by decide +kernel
theorem dX9_isOlder_42 : decode cX9_isOlder 42 = .ok (.iload_n 1, 1) := by decide +kernel
theorem dX9_isOlder_43 : decode cX9_isOlder 43 = .ok (.iload_n 2, 1) := by decide +kernel
theorem dX9_isOlder_44 : decode cX9_isOlder 44 = .ok (.if_icmp .ge 7, 3) := by decide +kernel
theorem dX9_isOlder_47 : decode cX9_isOlder 47 = .ok (.iconst 1, 1) := by decide +kernel
theorem dX9_isOlder_48 : decode cX9_isOlder 48 = .ok (.goto 4, 3) := by decide +kernel
theorem dX9_isOlder_51 : decode cX9_isOlder 51 = .ok (.iconst 0, 1) := by decide +kernel
theorem dX9_isOlder_52 : decode cX9_isOlder 52 = .ok (.ireturn, 1) := by decide +kernel
theorem dX9_atAge_0 : decode cX9_atAge 0 = .ok (.iconst 0, 1) := by decide +kernel
theorem dX9_atAge_1 : decode cX9_atAge 1 = .ok (.istore_n 2, 1) := by decide +kernel
theorem dX9_atAge_2 : decode cX9_atAge 2 = .ok (.iload_n 2, 1) := by decide +kernel
theorem dX9_atAge_3 : decode cX9_atAge 3 = .ok (.aload_n 0, 1) := by decide +kernel
theorem dX9_atAge_4 : decode cX9_atAge 4 = .ok (.getfield 7, 3) := by decide +kernel
theorem dX9_atAge_7 : decode cX9_atAge 7 = .ok (.iconst 0, 1) := by decide +kernel
theorem dX9_atAge_8 : decode cX9_atAge 8 = .ok (.iaload, 1) := by decide +kernel
theorem dX9_atAge_9 : decode cX9_atAge 9 = .ok (.if_icmp .ge 56, 3) := by decide +kernel
theorem dX9_atAge_12 : decode cX9_atAge 12 = .ok (.iconst 0, 1) := by decide +kernel
theorem dX9_atAge_13 : decode cX9_atAge 13 = .ok (.istore_n 3, 1) := by decide +kernel
theorem dX9_atAge_14 : decode cX9_atAge 14 = .ok (.iconst 0, 1) := by decide +kernel
theorem dX9_atAge_15 : decode cX9_atAge 15 = .ok (.istore 4, 2) := by decide +kernel
theorem dX9_atAge_17 : decode cX9_atAge 17 = .ok (.iload 4, 2) := by decide +kernel
theorem dX9_atAge_19 : decode cX9_atAge 19 = .ok (.aload_n 0, 1) := by decide +kernel
theorem dX9_atAge_20 : decode cX9_atAge 20 = .ok (.getfield 7, 3) := by decide +kernel
theorem dX9_atAge_23 : decode cX9_atAge 23 = .ok (.iconst 0, 1) := by decide +kernel
theorem dX9_atAge_24 : decode cX9_atAge 24 = .ok (.iaload, 1) := by decide +kernel
theorem dX9_atAge_25 : decode cX9_atAge 25 = .ok (.if_icmp .ge 27, 3) := by decide +kernel
theorem dX9_atAge_28 : decode cX9_atAge 28 = .ok (.iload_n 3, 1) := by decide +kernel
theorem dX9_atAge_29 : decode cX9_atAge 29 = .ok (.aload_n 0, 1) := by decide +kernel
theorem dX9_atAge_30 : decode cX9_atAge 30 = .ok (.iload 4, 2) := by decide +kernel
theorem dX9_atAge_32 : decode cX9_atAge 32 = .ok (.iload_n 2, 1) := by decide +kernel
theorem dX9_atAge_33 : decode cX9_atAge 33 = .ok (.invokevirtual 72, 3) := by decide +kernel
theorem dX9_atAge_36 : decode cX9_atAge 36 = .ok (.ifCond .eq 7, 3) := by decide +kernel
theorem dX9_atAge_39 : decode cX9_atAge 39 = .ok (.iconst 1, 1) := by decide +kernel
theorem dX9_atAge_40 : decode cX9_atAge 40 = .ok (.goto 4, 3) := by decide +kernel
theorem dX9_atAge_43 : decode cX9_atAge 43 = .ok (.iconst 0, 1) := by decide +kernel
theorem dX9_atAge_44 : decode cX9_atAge 44 = .ok (.iadd, 1) := by decide +kernel
theorem dX9_atAge_45 : decode cX9_atAge 45 = .ok (.istore_n 3, 1) := by decide +kernel
theorem dX9_atAge_46 : decode cX9_atAge 46 = .ok (.iinc 4 1, 3) := by decide +kernel
theorem dX9_atAge_49 : decode cX9_atAge 49 = .ok (.goto (-32), 3) := by decide +kernel
theorem dX9_atAge_52 : decode cX9_atAge 52 = .ok (.iload_n 3, 1) := by decide +kernel
theorem dX9_atAge_53 : decode cX9_atAge 53 = .ok (.iload_n 1, 1) := by decide +kernel
theorem dX9_atAge_54 : decode cX9_atAge 54 = .ok (.if_icmp .ne 5, 3) := by decide +kernel
theorem dX9_atAge_57 : decode cX9_atAge 57 = .ok (.iload_n 2, 1) := by decide +kernel
theorem dX9_atAge_58 : decode cX9_atAge 58 = .ok (.ireturn, 1) := by decide +kernel
theorem dX9_atAge_59 : decode cX9_atAge 59 = .ok (.iinc 2 1, 3) := by decide +kernel
theorem dX9_atAge_62 : decode cX9_atAge 62 = .ok (.goto (-60), 3) := by decide +kernel
theorem dX9_atAge_65 : decode cX9_atAge 65 = .ok (.bipush (-4), 2) := by decide +kernel
theorem dX9_atAge_67 : decode cX9_atAge 67 = .ok (.ireturn, 1) := by decide +kernel
theorem dX9_byAge_0 : decode cX9_byAge 0 = .ok (.iload_n 1, 1) := by decide +kernel
theorem dX9_byAge_1 : decode cX9_byAge 1 = .ok (.ifCond .ge 7, 3) := by decide +kernel
theorem dX9_byAge_4 : decode cX9_byAge 4 = .ok (.iconst (-1), 1) := by decide +kernel
theorem dX9_byAge_5 : decode cX9_byAge 5 = .ok (.goto 8, 3) := by decide +kernel
theorem dX9_byAge_8 : decode cX9_byAge 8 = .ok (.aload_n 0, 1) := by decide +kernel
theorem dX9_byAge_9 : decode cX9_byAge 9 = .ok (.iload_n 1, 1) := by decide +kernel
theorem dX9_byAge_10 : decode cX9_byAge 10 = .ok (.invokevirtual 76, 3) := by decide +kernel
theorem dX9_byAge_13 : decode cX9_byAge 13 = .ok (.ireturn, 1) := by decide +kernel
theorem dX9_takesOne_0 : decode cX9_takesOne 0 = .ok (.aload_n 0, 1) := by decide +kernel
theorem dX9_takesOne_1 : decode cX9_takesOne 1 = .ok (.aload_n 0, 1) := by decide +kernel
theorem dX9_takesOne_2 : decode cX9_takesOne 2 = .ok (.getfield 7, 3) := by decide +kernel
theorem dX9_takesOne_5 : decode cX9_takesOne 5 = .ok (.iconst 1, 1) := by decide +kernel
theorem dX9_takesOne_6 : decode cX9_takesOne 6 = .ok (.iload_n 1, 1) := by decide +kernel
theorem dX9_takesOne_7 : decode cX9_takesOne 7 = .ok (.iadd, 1) := by decide +kernel
theorem dX9_takesOne_8 : decode cX9_takesOne 8 = .ok (.iaload, 1) := by decide +kernel
theorem dX9_takesOne_9 : decode cX9_takesOne 9 = .ok (.putfield 80, 3) := by decide +kernel
theorem dX9_takesOne_12 : decode cX9_takesOne 12 = .ok (.iconst 0, 1) := by decide +kernel
theorem dX9_takesOne_13 : decode cX9_takesOne 13 = .ok (.istore_n 2, 1) := by decide +kernel
theorem dX9_takesOne_14 : decode cX9_takesOne 14 = .ok (.iload_n 2, 1) := by decide +kernel
theorem dX9_takesOne_15 : decode cX9_takesOne 15 = .ok (.aload_n 0, 1) := by decide +kernel
theorem dX9_takesOne_16 : decode cX9_takesOne 16 = .ok (.getfield 80, 3) := by decide +kernel
theorem dX9_takesOne_19 : decode cX9_takesOne 19 = .ok (.if_icmp .ge 29, 3) := by decide +kernel
theorem dX9_takesOne_22 : decode cX9_takesOne 22 = .ok (.aload_n 0, 1) := by decide +kernel
theorem dX9_takesOne_23 : decode cX9_takesOne 23 = .ok (.getfield 19, 3) := by decide +kernel
theorem dX9_takesOne_26 : decode cX9_takesOne 26 = .ok (.iload_n 2, 1) := by decide +kernel
theorem dX9_takesOne_27 : decode cX9_takesOne 27 = .ok (.aload_n 0, 1) := by decide +kernel
theorem dX9_takesOne_28 : decode cX9_takesOne 28 = .ok (.getfield 7, 3) := by decide +kernel
theorem dX9_takesOne_31 : decode cX9_takesOne 31 = .ok (.bipush 13, 2) := by decide +kernel
theorem dX9_takesOne_33 : decode cX9_takesOne 33 = .ok (.bipush 8, 2) := by decide +kernel
theorem dX9_takesOne_35 : decode cX9_takesOne 35 = .ok (.iload_n 1, 1) := by decide +kernel
theorem dX9_takesOne_36 : decode cX9_takesOne 36 = .ok (.imul, 1) := by decide +kernel
theorem dX9_takesOne_37 : decode cX9_takesOne 37 = .ok (.iadd, 1) := by decide +kernel
theorem dX9_takesOne_38 : decode cX9_takesOne 38 = .ok (.iload_n 2, 1) := by decide +kernel
theorem dX9_takesOne_39 : decode cX9_takesOne 39 = .ok (.iadd, 1) := by decide +kernel
theorem dX9_takesOne_40 : decode cX9_takesOne 40 = .ok (.iaload, 1) := by decide +kernel
theorem dX9_takesOne_41 : decode cX9_takesOne 41 = .ok (.iastore, 1) := by decide +kernel
theorem dX9_takesOne_42 : decode cX9_takesOne 42 = .ok (.iinc 2 1, 3) := by decide +kernel
theorem dX9_takesOne_45 : decode cX9_takesOne 45 = .ok (.goto (-31), 3) := by decide +kernel
theorem dX9_takesOne_48 : decode cX9_takesOne 48 = .ok (.return_, 1) := by decide +kernel
theorem dX9_takesOther_0 : decode cX9_takesOther 0 = .ok (.aload_n 0, 1) := by decide +kernel
theorem dX9_takesOther_1 : decode cX9_takesOther 1 = .ok (.aload_n 0, 1) := by decide +kernel
theorem dX9_takesOther_2 : decode cX9_takesOther 2 = .ok (.getfield 7, 3) := by decide +kernel
theorem dX9_takesOther_5 : decode cX9_takesOther 5 = .ok (.iconst 1, 1) := by decide +kernel
theorem dX9_takesOther_6 : decode cX9_takesOther 6 = .ok (.iload_n 1, 1) := by decide +kernel
theorem dX9_takesOther_7 : decode cX9_takesOther 7 = .ok (.iadd, 1) := by decide +kernel
theorem dX9_takesOther_8 : decode cX9_takesOther 8 = .ok (.iaload, 1) := by decide +kernel
theorem dX9_takesOther_9 : decode cX9_takesOther 9 = .ok (.putfield 83, 3) := by decide +kernel
theorem dX9_takesOther_12 : decode cX9_takesOther 12 = .ok (.iconst 0, 1) := by decide +kernel
theorem dX9_takesOther_13 : decode cX9_takesOther 13 = .ok (.istore_n 2, 1) := by decide +kernel
theorem dX9_takesOther_14 : decode cX9_takesOther 14 = .ok (.iload_n 2, 1) := by decide +kernel
theorem dX9_takesOther_15 : decode cX9_takesOther 15 = .ok (.aload_n 0, 1) := by decide +kernel
theorem dX9_takesOther_16 : decode cX9_takesOther 16 = .ok (.getfield 83, 3) := by decide +kernel
theorem dX9_takesOther_19 : decode cX9_takesOther 19 = .ok (.if_icmp .ge 29, 3) := by decide +kernel
theorem dX9_takesOther_22 : decode cX9_takesOther 22 = .ok (.aload_n 0, 1) := by decide +kernel
theorem dX9_takesOther_23 : decode cX9_takesOther 23 = .ok (.getfield 22, 3) := by decide +kernel
theorem dX9_takesOther_26 : decode cX9_takesOther 26 = .ok (.iload_n 2, 1) := by decide +kernel
theorem dX9_takesOther_27 : decode cX9_takesOther 27 = .ok (.aload_n 0, 1) := by decide +kernel
theorem dX9_takesOther_28 : decode cX9_takesOther 28 = .ok (.getfield 7, 3) := by decide +kernel
theorem dX9_takesOther_31 : decode cX9_takesOther 31 = .ok (.bipush 13, 2) := by decide +kernel
theorem dX9_takesOther_33 : decode cX9_takesOther 33 = .ok (.bipush 8, 2) := by decide +kernel
theorem dX9_takesOther_35 : decode cX9_takesOther 35 = .ok (.iload_n 1, 1) := by decide +kernel
theorem dX9_takesOther_36 : decode cX9_takesOther 36 = .ok (.imul, 1) := by decide +kernel
theorem dX9_takesOther_37 : decode cX9_takesOther 37 = .ok (.iadd, 1) := by decide +kernel
theorem dX9_takesOther_38 : decode cX9_takesOther 38 = .ok (.iload_n 2, 1) := by decide +kernel
theorem dX9_takesOther_39 : decode cX9_takesOther 39 = .ok (.iadd, 1) := by decide +kernel
theorem dX9_takesOther_40 : decode cX9_takesOther 40 = .ok (.iaload, 1) := by decide +kernel
theorem dX9_takesOther_41 : decode cX9_takesOther 41 = .ok (.iastore, 1) := by decide +kernel
theorem dX9_takesOther_42 : decode cX9_takesOther 42 = .ok (.iinc 2 1, 3) := by decide +kernel
theorem dX9_takesOther_45 : decode cX9_takesOther 45 = .ok (.goto (-31), 3) := by decide +kernel
theorem dX9_takesOther_48 : decode cX9_takesOther 48 = .ok (.return_, 1) := by decide +kernel
theorem dX9_exchange_0 : decode cX9_exchange 0 = .ok (.iload_n 1, 1) := by decide +kernel
theorem dX9_exchange_1 : decode cX9_exchange 1 = .ok (.iload_n 2, 1) := by decide +kernel
theorem dX9_exchange_2 : decode cX9_exchange 2 = .ok (.if_icmp .ne 7, 3) := by decide +kernel
theorem dX9_exchange_5 : decode cX9_exchange 5 = .ok (.iconst 0, 1) := by decide +kernel
theorem dX9_exchange_6 : decode cX9_exchange 6 = .ok (.goto 31, 3) := by decide +kernel
theorem dX9_exchange_9 : decode cX9_exchange 9 = .ok (.iload_n 1, 1) := by decide +kernel
theorem dX9_exchange_10 : decode cX9_exchange 10 = .ok (.iconst 4, 1) := by decide +kernel
theorem dX9_exchange_11 : decode cX9_exchange 11 = .ok (.idiv, 1) := by decide +kernel
theorem dX9_exchange_12 : decode cX9_exchange 12 = .ok (.iload_n 2, 1) := by decide +kernel
theorem dX9_exchange_13 : decode cX9_exchange 13 = .ok (.iconst 4, 1) := by decide +kernel
theorem dX9_exchange_14 : decode cX9_exchange 14 = .ok (.idiv, 1) := by decide +kernel
theorem dX9_exchange_15 : decode cX9_exchange 15 = .ok (.if_icmp .ne 14, 3) := by decide +kernel
theorem dX9_exchange_18 : decode cX9_exchange 18 = .ok (.aload_n 0, 1) := by decide +kernel
theorem dX9_exchange_19 : decode cX9_exchange 19 = .ok (.getfield 7, 3) := by decide +kernel
theorem dX9_exchange_22 : decode cX9_exchange 22 = .ok (.sipush 190, 3) := by decide +kernel
theorem dX9_exchange_25 : decode cX9_exchange 25 = .ok (.iaload, 1) := by decide +kernel
theorem dX9_exchange_26 : decode cX9_exchange 26 = .ok (.goto 11, 3) := by decide +kernel
theorem dX9_exchange_29 : decode cX9_exchange 29 = .ok (.aload_n 0, 1) := by decide +kernel
theorem dX9_exchange_30 : decode cX9_exchange 30 = .ok (.getfield 7, 3) := by decide +kernel
theorem dX9_exchange_33 : decode cX9_exchange 33 = .ok (.sipush 189, 3) := by decide +kernel
theorem dX9_exchange_36 : decode cX9_exchange 36 = .ok (.iaload, 1) := by decide +kernel
theorem dX9_exchange_37 : decode cX9_exchange 37 = .ok (.ireturn, 1) := by decide +kernel
theorem dX9_isCrossed_0 : decode cX9_isCrossed 0 = .ok (.iload_n 1, 1) := by decide +kernel
theorem dX9_isCrossed_1 : decode cX9_isCrossed 1 = .ok (.iconst 1, 1) := by decide +kernel
theorem dX9_isCrossed_2 : decode cX9_isCrossed 2 = .ok (.if_icmp .le 50, 3) := by decide +kernel
theorem dX9_isCrossed_5 : decode cX9_isCrossed 5 = .ok (.iload_n 2, 1) := by decide +kernel
theorem dX9_isCrossed_6 : decode cX9_isCrossed 6 = .ok (.iconst 1, 1) := by decide +kernel
theorem dX9_isCrossed_7 : decode cX9_isCrossed 7 = .ok (.if_icmp .le 45, 3) := by decide +kernel
theorem dX9_isCrossed_10 : decode cX9_isCrossed 10 = .ok (.aload_n 0, 1) := by decide +kernel
theorem dX9_isCrossed_11 : decode cX9_isCrossed 11 = .ok (.getfield 19, 3) := by decide +kernel
theorem dX9_isCrossed_14 : decode cX9_isCrossed 14 = .ok (.iload_n 1, 1) := by decide +kernel
theorem dX9_isCrossed_15 : decode cX9_isCrossed 15 = .ok (.iconst 1, 1) := by decide +kernel
theorem dX9_isCrossed_16 : decode cX9_isCrossed 16 = .ok (.isub, 1) := by decide +kernel
theorem dX9_isCrossed_17 : decode cX9_isCrossed 17 = .ok (.iaload, 1) := by decide +kernel
theorem dX9_isCrossed_18 : decode cX9_isCrossed 18 = .ok (.aload_n 0, 1) := by decide +kernel
theorem dX9_isCrossed_19 : decode cX9_isCrossed 19 = .ok (.getfield 22, 3) := by decide +kernel
theorem dX9_isCrossed_22 : decode cX9_isCrossed 22 = .ok (.iload_n 2, 1) := by decide +kernel
theorem dX9_isCrossed_23 : decode cX9_isCrossed 23 = .ok (.iconst 2, 1) := by decide +kernel
theorem dX9_isCrossed_24 : decode cX9_isCrossed 24 = .ok (.isub, 1) := by decide +kernel
theorem dX9_isCrossed_25 : decode cX9_isCrossed 25 = .ok (.iaload, 1) := by decide +kernel
theorem dX9_isCrossed_26 : decode cX9_isCrossed 26 = .ok (.if_icmp .ne 26, 3) := by decide +kernel
theorem dX9_isCrossed_29 : decode cX9_isCrossed 29 = .ok (.aload_n 0, 1) := by decide +kernel
theorem dX9_isCrossed_30 : decode cX9_isCrossed 30 = .ok (.getfield 19, 3) := by decide +kernel
theorem dX9_isCrossed_33 : decode cX9_isCrossed 33 = .ok (.iload_n 1, 1) := by decide +kernel
theorem dX9_isCrossed_34 : decode cX9_isCrossed 34 = .ok (.iconst 2, 1) := by decide +kernel
theorem dX9_isCrossed_35 : decode cX9_isCrossed 35 = .ok (.isub, 1) := by decide +kernel
theorem dX9_isCrossed_36 : decode cX9_isCrossed 36 = .ok (.iaload, 1) := by decide +kernel
theorem dX9_isCrossed_37 : decode cX9_isCrossed 37 = .ok (.aload_n 0, 1) := by decide +kernel
theorem dX9_isCrossed_38 : decode cX9_isCrossed 38 = .ok (.getfield 22, 3) := by decide +kernel
theorem dX9_isCrossed_41 : decode cX9_isCrossed 41 = .ok (.iload_n 2, 1) := by decide +kernel
theorem dX9_isCrossed_42 : decode cX9_isCrossed 42 = .ok (.iconst 1, 1) := by decide +kernel
theorem dX9_isCrossed_43 : decode cX9_isCrossed 43 = .ok (.isub, 1) := by decide +kernel
theorem dX9_isCrossed_44 : decode cX9_isCrossed 44 = .ok (.iaload, 1) := by decide +kernel
theorem dX9_isCrossed_45 : decode cX9_isCrossed 45 = .ok (.if_icmp .ne 7, 3) := by decide +kernel
theorem dX9_isCrossed_48 : decode cX9_isCrossed 48 = .ok (.iconst 1, 1) := by decide +kernel
theorem dX9_isCrossed_49 : decode cX9_isCrossed 49 = .ok (.goto 4, 3) := by decide +kernel
theorem dX9_isCrossed_52 : decode cX9_isCrossed 52 = .ok (.iconst 0, 1) := by decide +kernel
theorem dX9_isCrossed_53 : decode cX9_isCrossed 53 = .ok (.ireturn, 1) := by decide +kernel
theorem dX9_by_0 : decode cX9_by 0 = .ok (.iload_n 1, 1) := by decide +kernel
theorem dX9_by_1 : decode cX9_by 1 = .ok (.tableswitch 110 1 3 #[27, 64, 87], 27) := by decide +kernel
theorem dX9_by_28 : decode cX9_by 28 = .ok (.aload_n 0, 1) := by decide +kernel
theorem dX9_by_29 : decode cX9_by 29 = .ok (.getfield 25, 3) := by decide +kernel
theorem dX9_by_32 : decode cX9_by 32 = .ok (.bipush 9, 2) := by decide +kernel
theorem dX9_by_34 : decode cX9_by 34 = .ok (.iload_n 2, 1) := by decide +kernel
theorem dX9_by_35 : decode cX9_by 35 = .ok (.iconst 1, 1) := by decide +kernel
theorem dX9_by_36 : decode cX9_by 36 = .ok (.isub, 1) := by decide +kernel
theorem dX9_by_37 : decode cX9_by 37 = .ok (.imul, 1) := by decide +kernel
theorem dX9_by_38 : decode cX9_by 38 = .ok (.iload_n 3, 1) := by decide +kernel
theorem dX9_by_39 : decode cX9_by 39 = .ok (.iadd, 1) := by decide +kernel
theorem dX9_by_40 : decode cX9_by 40 = .ok (.iconst 1, 1) := by decide +kernel
theorem dX9_by_41 : decode cX9_by 41 = .ok (.isub, 1) := by decide +kernel
theorem dX9_by_42 : decode cX9_by 42 = .ok (.iaload, 1) := by decide +kernel
theorem dX9_by_43 : decode cX9_by 43 = .ok (.aload_n 0, 1) := by decide +kernel
theorem dX9_by_44 : decode cX9_by 44 = .ok (.aload_n 0, 1) := by decide +kernel
theorem dX9_by_45 : decode cX9_by 45 = .ok (.getfield 19, 3) := by decide +kernel
theorem dX9_by_48 : decode cX9_by 48 = .ok (.iload_n 2, 1) := by decide +kernel
theorem dX9_by_49 : decode cX9_by 49 = .ok (.iconst 1, 1) := by decide +kernel
theorem dX9_by_50 : decode cX9_by 50 = .ok (.isub, 1) := by decide +kernel
theorem dX9_by_51 : decode cX9_by 51 = .ok (.iaload, 1) := by decide +kernel
theorem dX9_by_52 : decode cX9_by 52 = .ok (.aload_n 0, 1) := by decide +kernel
theorem dX9_by_53 : decode cX9_by 53 = .ok (.getfield 22, 3) := by decide +kernel
theorem dX9_by_56 : decode cX9_by 56 = .ok (.iload_n 3, 1) := by decide +kernel
theorem dX9_by_57 : decode cX9_by 57 = .ok (.iconst 1, 1) := by decide +kernel
theorem dX9_by_58 : decode cX9_by 58 = .ok (.isub, 1) := by decide +kernel
theorem dX9_by_59 : decode cX9_by 59 = .ok (.iaload, 1) := by decide +kernel
theorem dX9_by_60 : decode cX9_by 60 = .ok (.invokevirtual 86, 3) := by decide +kernel
theorem dX9_by_63 : decode cX9_by 63 = .ok (.iadd, 1) := by decide +kernel
theorem dX9_by_64 : decode cX9_by 64 = .ok (.ireturn, 1) := by decide +kernel
theorem dX9_by_65 : decode cX9_by 65 = .ok (.aload_n 0, 1) := by decide +kernel
theorem dX9_by_66 : decode cX9_by 66 = .ok (.getfield 25, 3) := by decide +kernel
theorem dX9_by_69 : decode cX9_by 69 = .ok (.bipush 9, 2) := by decide +kernel
theorem dX9_by_71 : decode cX9_by 71 = .ok (.iload_n 2, 1) := by decide +kernel
theorem dX9_by_72 : decode cX9_by 72 = .ok (.iconst 1, 1) := by decide +kernel
theorem dX9_by_73 : decode cX9_by 73 = .ok (.isub, 1) := by decide +kernel
theorem dX9_by_74 : decode cX9_by 74 = .ok (.imul, 1) := by decide +kernel
theorem dX9_by_75 : decode cX9_by 75 = .ok (.iload_n 3, 1) := by decide +kernel
theorem dX9_by_76 : decode cX9_by 76 = .ok (.iadd, 1) := by decide +kernel
theorem dX9_by_77 : decode cX9_by 77 = .ok (.iaload, 1) := by decide +kernel
theorem dX9_by_78 : decode cX9_by 78 = .ok (.aload_n 0, 1) := by decide +kernel
theorem dX9_by_79 : decode cX9_by 79 = .ok (.getfield 7, 3) := by decide +kernel
theorem dX9_by_82 : decode cX9_by 82 = .ok (.sipush 188, 3) := by decide +kernel
theorem dX9_by_85 : decode cX9_by 85 = .ok (.iaload, 1) := by decide +kernel
theorem dX9_by_86 : decode cX9_by 86 = .ok (.iadd, 1) := by decide +kernel
theorem dX9_by_87 : decode cX9_by 87 = .ok (.ireturn, 1) := by decide +kernel
theorem dX9_by_88 : decode cX9_by 88 = .ok (.aload_n 0, 1) := by decide +kernel
theorem dX9_by_89 : decode cX9_by 89 = .ok (.getfield 25, 3) := by decide +kernel
theorem dX9_by_92 : decode cX9_by 92 = .ok (.bipush 9, 2) := by decide +kernel
theorem dX9_by_94 : decode cX9_by 94 = .ok (.iload_n 2, 1) := by decide +kernel
theorem dX9_by_95 : decode cX9_by 95 = .ok (.imul, 1) := by decide +kernel
theorem dX9_by_96 : decode cX9_by 96 = .ok (.iload_n 3, 1) := by decide +kernel
theorem dX9_by_97 : decode cX9_by 97 = .ok (.iadd, 1) := by decide +kernel
theorem dX9_by_98 : decode cX9_by 98 = .ok (.iconst 1, 1) := by decide +kernel
theorem dX9_by_99 : decode cX9_by 99 = .ok (.isub, 1) := by decide +kernel
theorem dX9_by_100 : decode cX9_by 100 = .ok (.iaload, 1) := by decide +kernel
theorem dX9_by_101 : decode cX9_by 101 = .ok (.aload_n 0, 1) := by decide +kernel
theorem dX9_by_102 : decode cX9_by 102 = .ok (.getfield 7, 3) := by decide +kernel
theorem dX9_by_105 : decode cX9_by 105 = .ok (.sipush 188, 3) := by decide +kernel
theorem dX9_by_108 : decode cX9_by 108 = .ok (.iaload, 1) := by decide +kernel
theorem dX9_by_109 : decode cX9_by 109 = .ok (.iadd, 1) := by decide +kernel
theorem dX9_by_110 : decode cX9_by 110 = .ok (.ireturn, 1) := by decide +kernel
theorem dX9_by_111 : decode cX9_by 111 = .ok (.aload_n 0, 1) := by decide +kernel
theorem dX9_by_112 : decode cX9_by 112 = .ok (.getfield 25, 3) := by decide +kernel
theorem dX9_by_115 : decode cX9_by 115 = .ok (.bipush 9, 2) := by decide +kernel
theorem dX9_by_117 : decode cX9_by 117 = .ok (.iload_n 2, 1) := by decide +kernel
theorem dX9_by_118 : decode cX9_by 118 = .ok (.iconst 2, 1) := by decide +kernel
theorem dX9_by_119 : decode cX9_by 119 = .ok (.isub, 1) := by decide +kernel
theorem dX9_by_120 : decode cX9_by 120 = .ok (.imul, 1) := by decide +kernel
theorem dX9_by_121 : decode cX9_by 121 = .ok (.iload_n 3, 1) := by decide +kernel
theorem dX9_by_122 : decode cX9_by 122 = .ok (.iadd, 1) := by decide +kernel
theorem dX9_by_123 : decode cX9_by 123 = .ok (.iconst 2, 1) := by decide +kernel
theorem dX9_by_124 : decode cX9_by 124 = .ok (.isub, 1) := by decide +kernel
theorem dX9_by_125 : decode cX9_by 125 = .ok (.iaload, 1) := by decide +kernel
theorem dX9_by_126 : decode cX9_by 126 = .ok (.aload_n 0, 1) := by decide +kernel
theorem dX9_by_127 : decode cX9_by 127 = .ok (.getfield 7, 3) := by decide +kernel
theorem dX9_by_130 : decode cX9_by 130 = .ok (.sipush 191, 3) := by decide +kernel
theorem dX9_by_133 : decode cX9_by 133 = .ok (.iaload, 1) := by decide +kernel
theorem dX9_by_134 : decode cX9_by 134 = .ok (.iadd, 1) := by decide +kernel
theorem dX9_by_135 : decode cX9_by 135 = .ok (.ireturn, 1) := by decide +kernel
theorem dX9_isStep_0 : decode cX9_isStep 0 = .ok (.iload_n 1, 1) := by decide +kernel
theorem dX9_isStep_1 : decode cX9_isStep 1 = .ok (.iconst 1, 1) := by decide +kernel
theorem dX9_isStep_2 : decode cX9_isStep 2 = .ok (.if_icmp .ne 19, 3) := by decide +kernel
theorem dX9_isStep_5 : decode cX9_isStep 5 = .ok (.iload_n 2, 1) := by decide +kernel
theorem dX9_isStep_6 : decode cX9_isStep 6 = .ok (.ifCond .le 11, 3) := by decide +kernel
theorem dX9_isStep_9 : decode cX9_isStep 9 = .ok (.iload_n 3, 1) := by decide +kernel
theorem dX9_isStep_10 : decode cX9_isStep 10 = .ok (.ifCond .le 7, 3) := by decide +kernel
theorem dX9_isStep_13 : decode cX9_isStep 13 = .ok (.iconst 1, 1) := by decide +kernel
theorem dX9_isStep_14 : decode cX9_isStep 14 = .ok (.goto 47, 3) := by decide +kernel
theorem dX9_isStep_17 : decode cX9_isStep 17 = .ok (.iconst 0, 1) := by decide +kernel
theorem dX9_isStep_18 : decode cX9_isStep 18 = .ok (.goto 43, 3) := by decide +kernel
theorem dX9_isStep_21 : decode cX9_isStep 21 = .ok (.iload_n 1, 1) := by decide +kernel
theorem dX9_isStep_22 : decode cX9_isStep 22 = .ok (.iconst 2, 1) := by decide +kernel
theorem dX9_isStep_23 : decode cX9_isStep 23 = .ok (.if_icmp .ne 15, 3) := by decide +kernel
theorem dX9_isStep_26 : decode cX9_isStep 26 = .ok (.iload_n 2, 1) := by decide +kernel
theorem dX9_isStep_27 : decode cX9_isStep 27 = .ok (.ifCond .le 7, 3) := by decide +kernel
theorem dX9_isStep_30 : decode cX9_isStep 30 = .ok (.iconst 1, 1) := by decide +kernel
theorem dX9_isStep_31 : decode cX9_isStep 31 = .ok (.goto 30, 3) := by decide +kernel
theorem dX9_isStep_34 : decode cX9_isStep 34 = .ok (.iconst 0, 1) := by decide +kernel
theorem dX9_isStep_35 : decode cX9_isStep 35 = .ok (.goto 26, 3) := by decide +kernel
theorem dX9_isStep_38 : decode cX9_isStep 38 = .ok (.iload_n 1, 1) := by decide +kernel
theorem dX9_isStep_39 : decode cX9_isStep 39 = .ok (.iconst 3, 1) := by decide +kernel
theorem dX9_isStep_40 : decode cX9_isStep 40 = .ok (.if_icmp .ne 15, 3) := by decide +kernel
theorem dX9_isStep_43 : decode cX9_isStep 43 = .ok (.iload_n 3, 1) := by decide +kernel
theorem dX9_isStep_44 : decode cX9_isStep 44 = .ok (.ifCond .le 7, 3) := by decide +kernel
theorem dX9_isStep_47 : decode cX9_isStep 47 = .ok (.iconst 1, 1) := by decide +kernel
theorem dX9_isStep_48 : decode cX9_isStep 48 = .ok (.goto 13, 3) := by decide +kernel
theorem dX9_isStep_51 : decode cX9_isStep 51 = .ok (.iconst 0, 1) := by decide +kernel
theorem dX9_isStep_52 : decode cX9_isStep 52 = .ok (.goto 9, 3) := by decide +kernel
theorem dX9_isStep_55 : decode cX9_isStep 55 = .ok (.aload_n 0, 1) := by decide +kernel
theorem dX9_isStep_56 : decode cX9_isStep 56 = .ok (.iload_n 2, 1) := by decide +kernel
theorem dX9_isStep_57 : decode cX9_isStep 57 = .ok (.iload_n 3, 1) := by decide +kernel
theorem dX9_isStep_58 : decode cX9_isStep 58 = .ok (.invokevirtual 90, 3) := by decide +kernel
theorem dX9_isStep_61 : decode cX9_isStep 61 = .ok (.ireturn, 1) := by decide +kernel
theorem dX9_lays_0 : decode cX9_lays 0 = .ok (.iconst 0, 1) := by decide +kernel
theorem dX9_lays_1 : decode cX9_lays 1 = .ok (.istore_n 1, 1) := by decide +kernel
theorem dX9_lays_2 : decode cX9_lays 2 = .ok (.iload_n 1, 1) := by decide +kernel
theorem dX9_lays_3 : decode cX9_lays 3 = .ok (.aload_n 0, 1) := by decide +kernel
theorem dX9_lays_4 : decode cX9_lays 4 = .ok (.getfield 80, 3) := by decide +kernel
theorem dX9_lays_7 : decode cX9_lays 7 = .ok (.if_icmp .gt 98, 3) := by decide +kernel
theorem dX9_lays_10 : decode cX9_lays 10 = .ok (.iconst 0, 1) := by decide +kernel
theorem dX9_lays_11 : decode cX9_lays 11 = .ok (.istore_n 2, 1) := by decide +kernel
theorem dX9_lays_12 : decode cX9_lays 12 = .ok (.iload_n 2, 1) := by decide +kernel
theorem dX9_lays_13 : decode cX9_lays 13 = .ok (.aload_n 0, 1) := by decide +kernel
theorem dX9_lays_14 : decode cX9_lays 14 = .ok (.getfield 83, 3) := by decide +kernel
theorem dX9_lays_17 : decode cX9_lays 17 = .ok (.if_icmp .gt 82, 3) := by decide +kernel
theorem dX9_lays_20 : decode cX9_lays 20 = .ok (.iload_n 1, 1) := by decide +kernel
theorem dX9_lays_21 : decode cX9_lays 21 = .ok (.iload_n 2, 1) := by decide +kernel
theorem dX9_lays_22 : decode cX9_lays 22 = .ok (.iadd, 1) := by decide +kernel
theorem dX9_lays_23 : decode cX9_lays 23 = .ok (.ifCond .ne 7, 3) := by decide +kernel
theorem dX9_lays_26 : decode cX9_lays 26 = .ok (.iconst 0, 1) := by decide +kernel
theorem dX9_lays_27 : decode cX9_lays 27 = .ok (.goto 6, 3) := by decide +kernel
theorem dX9_lays_30 : decode cX9_lays 30 = .ok (.sipush 10000, 3) := by decide +kernel
theorem dX9_lays_33 : decode cX9_lays 33 = .ok (.istore_n 3, 1) := by decide +kernel
theorem dX9_lays_34 : decode cX9_lays 34 = .ok (.iconst 1, 1) := by decide +kernel
theorem dX9_lays_35 : decode cX9_lays 35 = .ok (.istore 4, 2) := by decide +kernel
theorem dX9_lays_37 : decode cX9_lays 37 = .ok (.iload 4, 2) := by decide +kernel
theorem dX9_lays_39 : decode cX9_lays 39 = .ok (.iconst 5, 1) := by decide +kernel
theorem dX9_lays_40 : decode cX9_lays 40 = .ok (.if_icmp .ge 41, 3) := by decide +kernel
theorem dX9_lays_43 : decode cX9_lays 43 = .ok (.aload_n 0, 1) := by decide +kernel
theorem dX9_lays_44 : decode cX9_lays 44 = .ok (.iload 4, 2) := by decide +kernel
theorem dX9_lays_46 : decode cX9_lays 46 = .ok (.iload_n 1, 1) := by decide +kernel
theorem dX9_lays_47 : decode cX9_lays 47 = .ok (.iload_n 2, 1) := by decide +kernel
theorem dX9_lays_48 : decode cX9_lays 48 = .ok (.invokevirtual 93, 3) := by decide +kernel
theorem dX9_lays_51 : decode cX9_lays 51 = .ok (.ifCond .eq 24, 3) := by decide +kernel
theorem dX9_lays_54 : decode cX9_lays 54 = .ok (.aload_n 0, 1) := by decide +kernel
theorem dX9_lays_55 : decode cX9_lays 55 = .ok (.iload 4, 2) := by decide +kernel
theorem dX9_lays_57 : decode cX9_lays 57 = .ok (.iload_n 1, 1) := by decide +kernel
theorem dX9_lays_58 : decode cX9_lays 58 = .ok (.iload_n 2, 1) := by decide +kernel
theorem dX9_lays_59 : decode cX9_lays 59 = .ok (.invokevirtual 97, 3) := by decide +kernel
theorem dX9_lays_62 : decode cX9_lays 62 = .ok (.iload_n 3, 1) := by decide +kernel
theorem dX9_lays_63 : decode cX9_lays 63 = .ok (.if_icmp .ge 12, 3) := by decide +kernel
theorem dX9_lays_66 : decode cX9_lays 66 = .ok (.aload_n 0, 1) := by decide +kernel
theorem dX9_lays_67 : decode cX9_lays 67 = .ok (.iload 4, 2) := by decide +kernel
theorem dX9_lays_69 : decode cX9_lays 69 = .ok (.iload_n 1, 1) := by decide +kernel
theorem dX9_lays_70 : decode cX9_lays 70 = .ok (.iload_n 2, 1) := by decide +kernel
theorem dX9_lays_71 : decode cX9_lays 71 = .ok (.invokevirtual 97, 3) := by decide +kernel
theorem dX9_lays_74 : decode cX9_lays 74 = .ok (.istore_n 3, 1) := by decide +kernel
theorem dX9_lays_75 : decode cX9_lays 75 = .ok (.iinc 4 1, 3) := by decide +kernel
theorem dX9_lays_78 : decode cX9_lays 78 = .ok (.goto (-41), 3) := by decide +kernel
theorem dX9_lays_81 : decode cX9_lays 81 = .ok (.aload_n 0, 1) := by decide +kernel
theorem dX9_lays_82 : decode cX9_lays 82 = .ok (.getfield 25, 3) := by decide +kernel
theorem dX9_lays_85 : decode cX9_lays 85 = .ok (.bipush 9, 2) := by decide +kernel
theorem dX9_lays_87 : decode cX9_lays 87 = .ok (.iload_n 1, 1) := by decide +kernel
theorem dX9_lays_88 : decode cX9_lays 88 = .ok (.imul, 1) := by decide +kernel
theorem dX9_lays_89 : decode cX9_lays 89 = .ok (.iload_n 2, 1) := by decide +kernel
theorem dX9_lays_90 : decode cX9_lays 90 = .ok (.iadd, 1) := by decide +kernel
theorem dX9_lays_91 : decode cX9_lays 91 = .ok (.iload_n 3, 1) := by decide +kernel
theorem dX9_lays_92 : decode cX9_lays 92 = .ok (.iastore, 1) := by decide +kernel
theorem dX9_lays_93 : decode cX9_lays 93 = .ok (.iinc 2 1, 3) := by decide +kernel
theorem dX9_lays_96 : decode cX9_lays 96 = .ok (.goto (-84), 3) := by decide +kernel
theorem dX9_lays_99 : decode cX9_lays 99 = .ok (.iinc 1 1, 3) := by decide +kernel
theorem dX9_lays_102 : decode cX9_lays 102 = .ok (.goto (-100), 3) := by decide +kernel
theorem dX9_lays_105 : decode cX9_lays 105 = .ok (.aload_n 0, 1) := by decide +kernel
theorem dX9_lays_106 : decode cX9_lays 106 = .ok (.getfield 25, 3) := by decide +kernel
theorem dX9_lays_109 : decode cX9_lays 109 = .ok (.bipush 9, 2) := by decide +kernel
theorem dX9_lays_111 : decode cX9_lays 111 = .ok (.aload_n 0, 1) := by decide +kernel
theorem dX9_lays_112 : decode cX9_lays 112 = .ok (.getfield 80, 3) := by decide +kernel
theorem dX9_lays_115 : decode cX9_lays 115 = .ok (.imul, 1) := by decide +kernel
theorem dX9_lays_116 : decode cX9_lays 116 = .ok (.aload_n 0, 1) := by decide +kernel
theorem dX9_lays_117 : decode cX9_lays 117 = .ok (.getfield 83, 3) := by decide +kernel
theorem dX9_lays_120 : decode cX9_lays 120 = .ok (.iadd, 1) := by decide +kernel
theorem dX9_lays_121 : decode cX9_lays 121 = .ok (.iaload, 1) := by decide +kernel
theorem dX9_lays_122 : decode cX9_lays 122 = .ok (.ireturn, 1) := by decide +kernel
theorem dX9_distanceOf_0 : decode cX9_distanceOf 0 = .ok (.aload_n 0, 1) := by decide +kernel
theorem dX9_distanceOf_1 : decode cX9_distanceOf 1 = .ok (.iload_n 1, 1) := by decide +kernel
theorem dX9_distanceOf_2 : decode cX9_distanceOf 2 = .ok (.invokevirtual 101, 3) := by decide +kernel
theorem dX9_distanceOf_5 : decode cX9_distanceOf 5 = .ok (.aload_n 0, 1) := by decide +kernel
theorem dX9_distanceOf_6 : decode cX9_distanceOf 6 = .ok (.iload_n 2, 1) := by decide +kernel
theorem dX9_distanceOf_7 : decode cX9_distanceOf 7 = .ok (.invokevirtual 105, 3) := by decide +kernel
theorem dX9_distanceOf_10 : decode cX9_distanceOf 10 = .ok (.aload_n 0, 1) := by decide +kernel
theorem dX9_distanceOf_11 : decode cX9_distanceOf 11 = .ok (.invokevirtual 108, 3) := by decide +kernel
theorem dX9_distanceOf_14 : decode cX9_distanceOf 14 = .ok (.ireturn, 1) := by decide +kernel
theorem dX9_setCost_0 : decode cX9_setCost 0 = .ok (.iload_n 1, 1) := by decide +kernel
theorem dX9_setCost_1 : decode cX9_setCost 1 = .ok (.i2l, 1) := by decide +kernel
theorem dX9_setCost_2 : decode cX9_setCost 2 = .ok (.lconst 0, 1) := by decide +kernel
theorem dX9_setCost_3 : decode cX9_setCost 3 = .ok (.ldc2_w 112, 3) := by decide +kernel
theorem dX9_setCost_6 : decode cX9_setCost 6 = .ok (.invokestatic 50, 3) := by decide +kernel
theorem dX9_setCost_9 : decode cX9_setCost 9 = .ok (.ifCond .eq 15, 3) := by decide +kernel
theorem dX9_setCost_12 : decode cX9_setCost 12 = .ok (.iload_n 2, 1) := by decide +kernel
theorem dX9_setCost_13 : decode cX9_setCost 13 = .ok (.i2l, 1) := by decide +kernel
theorem dX9_setCost_14 : decode cX9_setCost 14 = .ok (.lconst 1, 1) := by decide +kernel
theorem dX9_setCost_15 : decode cX9_setCost 15 = .ok (.ldc2_w 63, 3) := by decide +kernel
theorem dX9_setCost_18 : decode cX9_setCost 18 = .ok (.invokestatic 50, 3) := by decide +kernel
theorem dX9_setCost_21 : decode cX9_setCost 21 = .ok (.ifCond .ne 5, 3) := by decide +kernel
theorem dX9_setCost_24 : decode cX9_setCost 24 = .ok (.iconst (-1), 1) := by decide +kernel
theorem dX9_setCost_25 : decode cX9_setCost 25 = .ok (.ireturn, 1) := by decide +kernel
theorem dX9_setCost_26 : decode cX9_setCost 26 = .ok (.aload_n 0, 1) := by decide +kernel
theorem dX9_setCost_27 : decode cX9_setCost 27 = .ok (.invokevirtual 65, 3) := by decide +kernel
theorem dX9_setCost_30 : decode cX9_setCost 30 = .ok (.aload_n 0, 1) := by decide +kernel
theorem dX9_setCost_31 : decode cX9_setCost 31 = .ok (.getfield 7, 3) := by decide +kernel
theorem dX9_setCost_34 : decode cX9_setCost 34 = .ok (.sipush 188, 3) := by decide +kernel
theorem dX9_setCost_37 : decode cX9_setCost 37 = .ok (.iload_n 1, 1) := by decide +kernel
theorem dX9_setCost_38 : decode cX9_setCost 38 = .ok (.iadd, 1) := by decide +kernel
theorem dX9_setCost_39 : decode cX9_setCost 39 = .ok (.iaload, 1) := by decide +kernel
theorem dX9_setCost_40 : decode cX9_setCost 40 = .ok (.istore_n 3, 1) := by decide +kernel
theorem dX9_setCost_41 : decode cX9_setCost 41 = .ok (.aload_n 0, 1) := by decide +kernel
theorem dX9_setCost_42 : decode cX9_setCost 42 = .ok (.getfield 7, 3) := by decide +kernel
theorem dX9_setCost_45 : decode cX9_setCost 45 = .ok (.sipush 188, 3) := by decide +kernel
theorem dX9_setCost_48 : decode cX9_setCost 48 = .ok (.iload_n 1, 1) := by decide +kernel
theorem dX9_setCost_49 : decode cX9_setCost 49 = .ok (.iadd, 1) := by decide +kernel
theorem dX9_setCost_50 : decode cX9_setCost 50 = .ok (.iload_n 2, 1) := by decide +kernel
theorem dX9_setCost_51 : decode cX9_setCost 51 = .ok (.iastore, 1) := by decide +kernel
theorem dX9_setCost_52 : decode cX9_setCost 52 = .ok (.iload_n 3, 1) := by decide +kernel
theorem dX9_setCost_53 : decode cX9_setCost 53 = .ok (.ireturn, 1) := by decide +kernel
theorem dX9_distance_0 : decode cX9_distance 0 = .ok (.aload_n 0, 1) := by decide +kernel
theorem dX9_distance_1 : decode cX9_distance 1 = .ok (.iload_n 1, 1) := by decide +kernel
theorem dX9_distance_2 : decode cX9_distance 2 = .ok (.invokevirtual 68, 3) := by decide +kernel
theorem dX9_distance_5 : decode cX9_distance 5 = .ok (.ifCond .eq 20, 3) := by decide +kernel
theorem dX9_distance_8 : decode cX9_distance 8 = .ok (.aload_n 0, 1) := by decide +kernel
theorem dX9_distance_9 : decode cX9_distance 9 = .ok (.iload_n 2, 1) := by decide +kernel
theorem dX9_distance_10 : decode cX9_distance 10 = .ok (.invokevirtual 68, 3) := by decide +kernel
theorem dX9_distance_13 : decode cX9_distance 13 = .ok (.ifCond .eq 12, 3) := by decide +kernel
theorem dX9_distance_16 : decode cX9_distance 16 = .ok (.aload_n 0, 1) := by decide +kernel
theorem dX9_distance_17 : decode cX9_distance 17 = .ok (.iload_n 1, 1) := by decide +kernel
theorem dX9_distance_18 : decode cX9_distance 18 = .ok (.iload_n 2, 1) := by decide +kernel
theorem dX9_distance_19 : decode cX9_distance 19 = .ok (.invokevirtual 114, 3) := by decide +kernel
theorem dX9_distance_22 : decode cX9_distance 22 = .ok (.goto 4, 3) := by decide +kernel
theorem dX9_distance_25 : decode cX9_distance 25 = .ok (.iconst (-1), 1) := by decide +kernel
theorem dX9_distance_26 : decode cX9_distance 26 = .ok (.ireturn, 1) := by decide +kernel
theorem dX9_similarityBits_0 : decode cX9_similarityBits 0 = .ok (.aload_n 0, 1) := by decide +kernel
theorem dX9_similarityBits_1 : decode cX9_similarityBits 1 = .ok (.iload_n 1, 1) := by decide +kernel
theorem dX9_similarityBits_2 : decode cX9_similarityBits 2 = .ok (.invokevirtual 68, 3) := by decide +kernel
theorem dX9_similarityBits_5 : decode cX9_similarityBits 5 = .ok (.ifCond .eq 11, 3) := by decide +kernel
theorem dX9_similarityBits_8 : decode cX9_similarityBits 8 = .ok (.aload_n 0, 1) := by decide +kernel
theorem dX9_similarityBits_9 : decode cX9_similarityBits 9 = .ok (.iload_n 2, 1) := by decide +kernel
theorem dX9_similarityBits_10 : decode cX9_similarityBits 10 = .ok (.invokevirtual 68, 3) := by decide +kernel
theorem dX9_similarityBits_13 : decode cX9_similarityBits 13 = .ok (.ifCond .ne 5, 3) := by decide +kernel
theorem dX9_similarityBits_16 : decode cX9_similarityBits 16 = .ok (.iconst (-1), 1) := by decide +kernel
theorem dX9_similarityBits_17 : decode cX9_similarityBits 17 = .ok (.ireturn, 1) := by decide +kernel
theorem dX9_similarityBits_18 : decode cX9_similarityBits 18 = .ok (.aload_n 0, 1) := by decide +kernel
theorem dX9_similarityBits_19 : decode cX9_similarityBits 19 = .ok (.iload_n 1, 1) := by decide +kernel
theorem dX9_similarityBits_20 : decode cX9_similarityBits 20 = .ok (.iload_n 2, 1) := by decide +kernel
theorem dX9_similarityBits_21 : decode cX9_similarityBits 21 = .ok (.invokevirtual 114, 3) := by decide +kernel
theorem dX9_similarityBits_24 : decode cX9_similarityBits 24 = .ok (.i2f, 1) := by decide +kernel
theorem dX9_similarityBits_25 : decode cX9_similarityBits 25 = .ok (.aload_n 0, 1) := by decide +kernel
theorem dX9_similarityBits_26 : decode cX9_similarityBits 26 = .ok (.getfield 7, 3) := by decide +kernel
theorem dX9_similarityBits_29 : decode cX9_similarityBits 29 = .ok (.sipush 188, 3) := by decide +kernel
theorem dX9_similarityBits_32 : decode cX9_similarityBits 32 = .ok (.iaload, 1) := by decide +kernel
theorem dX9_similarityBits_33 : decode cX9_similarityBits 33 = .ok (.aload_n 0, 1) := by decide +kernel
theorem dX9_similarityBits_34 : decode cX9_similarityBits 34 = .ok (.getfield 7, 3) := by decide +kernel
theorem dX9_similarityBits_37 : decode cX9_similarityBits 37 = .ok (.iconst 1, 1) := by decide +kernel
theorem dX9_similarityBits_38 : decode cX9_similarityBits 38 = .ok (.iload_n 1, 1) := by decide +kernel
theorem dX9_similarityBits_39 : decode cX9_similarityBits 39 = .ok (.iadd, 1) := by decide +kernel
theorem dX9_similarityBits_40 : decode cX9_similarityBits 40 = .ok (.iaload, 1) := by decide +kernel
theorem dX9_similarityBits_41 : decode cX9_similarityBits 41 = .ok (.aload_n 0, 1) := by decide +kernel
theorem dX9_similarityBits_42 : decode cX9_similarityBits 42 = .ok (.getfield 7, 3) := by decide +kernel
theorem dX9_similarityBits_45 : decode cX9_similarityBits 45 = .ok (.iconst 1, 1) := by decide +kernel
theorem dX9_similarityBits_46 : decode cX9_similarityBits 46 = .ok (.iload_n 2, 1) := by decide +kernel
theorem dX9_similarityBits_47 : decode cX9_similarityBits 47 = .ok (.iadd, 1) := by decide +kernel
theorem dX9_similarityBits_48 : decode cX9_similarityBits 48 = .ok (.iaload, 1) := by decide +kernel
theorem dX9_similarityBits_49 : decode cX9_similarityBits 49 = .ok (.iadd, 1) := by decide +kernel
theorem dX9_similarityBits_50 : decode cX9_similarityBits 50 = .ok (.imul, 1) := by decide +kernel
theorem dX9_similarityBits_51 : decode cX9_similarityBits 51 = .ok (.i2f, 1) := by decide +kernel
theorem dX9_similarityBits_52 : decode cX9_similarityBits 52 = .ok (.fdiv, 1) := by decide +kernel
theorem dX9_similarityBits_53 : decode cX9_similarityBits 53 = .ok (.fstore_n 3, 1) := by decide +kernel
theorem dX9_similarityBits_54 : decode cX9_similarityBits 54 = .ok (.fconst 1, 1) := by decide +kernel
theorem dX9_similarityBits_55 : decode cX9_similarityBits 55 = .ok (.fload_n 3, 1) := by decide +kernel
theorem dX9_similarityBits_56 : decode cX9_similarityBits 56 = .ok (.fsub, 1) := by decide +kernel
theorem dX9_similarityBits_57 : decode cX9_similarityBits 57 = .ok (.invokestatic 117, 3) := by decide +kernel
theorem dX9_similarityBits_60 : decode cX9_similarityBits 60 = .ok (.ireturn, 1) := by decide +kernel
theorem dX9_findsEdits_0 : decode cX9_findsEdits 0 = .ok (.aload_n 0, 1) := by decide +kernel
theorem dX9_findsEdits_1 : decode cX9_findsEdits 1 = .ok (.iload_n 1, 1) := by decide +kernel
theorem dX9_findsEdits_2 : decode cX9_findsEdits 2 = .ok (.iload_n 2, 1) := by decide +kernel
theorem dX9_findsEdits_3 : decode cX9_findsEdits 3 = .ok (.invokevirtual 114, 3) := by decide +kernel
theorem dX9_findsEdits_6 : decode cX9_findsEdits 6 = .ok (.pop, 1) := by decide +kernel
theorem dX9_findsEdits_7 : decode cX9_findsEdits 7 = .ok (.aload_n 0, 1) := by decide +kernel
theorem dX9_findsEdits_8 : decode cX9_findsEdits 8 = .ok (.iconst 0, 1) := by decide +kernel
theorem dX9_findsEdits_9 : decode cX9_findsEdits 9 = .ok (.putfield 123, 3) := by decide +kernel
theorem dX9_findsEdits_12 : decode cX9_findsEdits 12 = .ok (.aload_n 0, 1) := by decide +kernel
theorem dX9_findsEdits_13 : decode cX9_findsEdits 13 = .ok (.getfield 80, 3) := by decide +kernel
theorem dX9_findsEdits_16 : decode cX9_findsEdits 16 = .ok (.istore_n 3, 1) := by decide +kernel
theorem dX9_findsEdits_17 : decode cX9_findsEdits 17 = .ok (.aload_n 0, 1) := by decide +kernel
theorem dX9_findsEdits_18 : decode cX9_findsEdits 18 = .ok (.getfield 83, 3) := by decide +kernel
theorem dX9_findsEdits_21 : decode cX9_findsEdits 21 = .ok (.istore 4, 2) := by decide +kernel
theorem dX9_findsEdits_23 : decode cX9_findsEdits 23 = .ok (.iload_n 3, 1) := by decide +kernel
theorem dX9_findsEdits_24 : decode cX9_findsEdits 24 = .ok (.iload 4, 2) := by decide +kernel
theorem dX9_findsEdits_26 : decode cX9_findsEdits 26 = .ok (.iadd, 1) := by decide +kernel
theorem dX9_findsEdits_27 : decode cX9_findsEdits 27 = .ok (.ifCond .le 171, 3) := by decide +kernel
theorem dX9_findsEdits_30 : decode cX9_findsEdits 30 = .ok (.iconst 1, 1) := by decide +kernel
theorem dX9_findsEdits_31 : decode cX9_findsEdits 31 = .ok (.istore 5, 2) := by decide +kernel
theorem dX9_findsEdits_33 : decode cX9_findsEdits 33 = .ok (.aload_n 0, 1) := by decide +kernel
theorem dX9_findsEdits_34 : decode cX9_findsEdits 34 = .ok (.iload 5, 2) := by decide +kernel
theorem dX9_findsEdits_36 : decode cX9_findsEdits 36 = .ok (.iload_n 3, 1) := by decide +kernel
theorem dX9_findsEdits_37 : decode cX9_findsEdits 37 = .ok (.iload 4, 2) := by decide +kernel
theorem dX9_findsEdits_39 : decode cX9_findsEdits 39 = .ok (.invokevirtual 93, 3) := by decide +kernel
theorem dX9_findsEdits_42 : decode cX9_findsEdits 42 = .ok (.ifCond .eq 27, 3) := by decide +kernel
theorem dX9_findsEdits_45 : decode cX9_findsEdits 45 = .ok (.aload_n 0, 1) := by decide +kernel
theorem dX9_findsEdits_46 : decode cX9_findsEdits 46 = .ok (.iload 5, 2) := by decide +kernel
theorem dX9_findsEdits_48 : decode cX9_findsEdits 48 = .ok (.iload_n 3, 1) := by decide +kernel
theorem dX9_findsEdits_49 : decode cX9_findsEdits 49 = .ok (.iload 4, 2) := by decide +kernel
theorem dX9_findsEdits_51 : decode cX9_findsEdits 51 = .ok (.invokevirtual 97, 3) := by decide +kernel
theorem dX9_findsEdits_54 : decode cX9_findsEdits 54 = .ok (.aload_n 0, 1) := by decide +kernel
theorem dX9_findsEdits_55 : decode cX9_findsEdits 55 = .ok (.getfield 25, 3) := by decide +kernel
theorem dX9_findsEdits_58 : decode cX9_findsEdits 58 = .ok (.bipush 9, 2) := by decide +kernel
theorem dX9_findsEdits_60 : decode cX9_findsEdits 60 = .ok (.iload_n 3, 1) := by decide +kernel
theorem dX9_findsEdits_61 : decode cX9_findsEdits 61 = .ok (.imul, 1) := by decide +kernel
theorem dX9_findsEdits_62 : decode cX9_findsEdits 62 = .ok (.iload 4, 2) := by decide +kernel
theorem dX9_findsEdits_64 : decode cX9_findsEdits 64 = .ok (.iadd, 1) := by decide +kernel
theorem dX9_findsEdits_65 : decode cX9_findsEdits 65 = .ok (.iaload, 1) := by decide +kernel
theorem dX9_findsEdits_66 : decode cX9_findsEdits 66 = .ok (.if_icmp .eq 9, 3) := by decide +kernel
theorem dX9_findsEdits_69 : decode cX9_findsEdits 69 = .ok (.iinc 5 1, 3) := by decide +kernel
theorem dX9_findsEdits_72 : decode cX9_findsEdits 72 = .ok (.goto (-39), 3) := by decide +kernel
theorem dX9_findsEdits_75 : decode cX9_findsEdits 75 = .ok (.iload 5, 2) := by decide +kernel
theorem dX9_findsEdits_77 : decode cX9_findsEdits 77 = .ok (.iconst 1, 1) := by decide +kernel
theorem dX9_findsEdits_78 : decode cX9_findsEdits 78 = .ok (.if_icmp .ne 27, 3) := by decide +kernel
theorem dX9_findsEdits_81 : decode cX9_findsEdits 81 = .ok (.aload_n 0, 1) := by decide +kernel
theorem dX9_findsEdits_82 : decode cX9_findsEdits 82 = .ok (.getfield 19, 3) := by decide +kernel
theorem dX9_findsEdits_85 : decode cX9_findsEdits 85 = .ok (.iload_n 3, 1) := by decide +kernel
theorem dX9_findsEdits_86 : decode cX9_findsEdits 86 = .ok (.iconst 1, 1) := by decide +kernel
theorem dX9_findsEdits_87 : decode cX9_findsEdits 87 = .ok (.isub, 1) := by decide +kernel
theorem dX9_findsEdits_88 : decode cX9_findsEdits 88 = .ok (.iaload, 1) := by decide +kernel
theorem dX9_findsEdits_89 : decode cX9_findsEdits 89 = .ok (.aload_n 0, 1) := by decide +kernel
theorem dX9_findsEdits_90 : decode cX9_findsEdits 90 = .ok (.getfield 22, 3) := by decide +kernel
theorem dX9_findsEdits_93 : decode cX9_findsEdits 93 = .ok (.iload 4, 2) := by decide +kernel
theorem dX9_findsEdits_95 : decode cX9_findsEdits 95 = .ok (.iconst 1, 1) := by decide +kernel
theorem dX9_findsEdits_96 : decode cX9_findsEdits 96 = .ok (.isub, 1) := by decide +kernel
theorem dX9_findsEdits_97 : decode cX9_findsEdits 97 = .ok (.iaload, 1) := by decide +kernel
theorem dX9_findsEdits_98 : decode cX9_findsEdits 98 = .ok (.if_icmp .ne 7, 3) := by decide +kernel
theorem dX9_findsEdits_101 : decode cX9_findsEdits 101 = .ok (.iconst 1, 1) := by decide +kernel
theorem dX9_findsEdits_102 : decode cX9_findsEdits 102 = .ok (.goto 4, 3) := by decide +kernel
theorem dX9_findsEdits_105 : decode cX9_findsEdits 105 = .ok (.iconst 0, 1) := by decide +kernel
theorem dX9_findsEdits_106 : decode cX9_findsEdits 106 = .ok (.istore 6, 2) := by decide +kernel
theorem dX9_findsEdits_108 : decode cX9_findsEdits 108 = .ok (.iload_n 3, 1) := by decide +kernel
theorem dX9_findsEdits_109 : decode cX9_findsEdits 109 = .ok (.iload 5, 2) := by decide +kernel
theorem dX9_findsEdits_111 : decode cX9_findsEdits 111 = .ok (.iconst 3, 1) := by decide +kernel
theorem dX9_findsEdits_112 : decode cX9_findsEdits 112 = .ok (.if_icmp .ne 7, 3) := by decide +kernel
theorem dX9_findsEdits_115 : decode cX9_findsEdits 115 = .ok (.iconst 0, 1) := by decide +kernel
theorem dX9_findsEdits_116 : decode cX9_findsEdits 116 = .ok (.goto 14, 3) := by decide +kernel
theorem dX9_findsEdits_119 : decode cX9_findsEdits 119 = .ok (.iload 5, 2) := by decide +kernel
theorem dX9_findsEdits_121 : decode cX9_findsEdits 121 = .ok (.iconst 4, 1) := by decide +kernel
theorem dX9_findsEdits_122 : decode cX9_findsEdits 122 = .ok (.if_icmp .ne 7, 3) := by decide +kernel
theorem dX9_findsEdits_125 : decode cX9_findsEdits 125 = .ok (.iconst 2, 1) := by decide +kernel
theorem dX9_findsEdits_126 : decode cX9_findsEdits 126 = .ok (.goto 4, 3) := by decide +kernel
theorem dX9_findsEdits_129 : decode cX9_findsEdits 129 = .ok (.iconst 1, 1) := by decide +kernel
theorem dX9_findsEdits_130 : decode cX9_findsEdits 130 = .ok (.isub, 1) := by decide +kernel
theorem dX9_findsEdits_131 : decode cX9_findsEdits 131 = .ok (.istore_n 3, 1) := by decide +kernel
theorem dX9_findsEdits_132 : decode cX9_findsEdits 132 = .ok (.iload 4, 2) := by decide +kernel
theorem dX9_findsEdits_134 : decode cX9_findsEdits 134 = .ok (.iload 5, 2) := by decide +kernel
theorem dX9_findsEdits_136 : decode cX9_findsEdits 136 = .ok (.iconst 2, 1) := by decide +kernel
theorem dX9_findsEdits_137 : decode cX9_findsEdits 137 = .ok (.if_icmp .ne 7, 3) := by decide +kernel
theorem dX9_findsEdits_140 : decode cX9_findsEdits 140 = .ok (.iconst 0, 1) := by decide +kernel
theorem dX9_findsEdits_141 : decode cX9_findsEdits 141 = .ok (.goto 14, 3) := by decide +kernel
theorem dX9_findsEdits_144 : decode cX9_findsEdits 144 = .ok (.iload 5, 2) := by decide +kernel
theorem dX9_findsEdits_146 : decode cX9_findsEdits 146 = .ok (.iconst 4, 1) := by decide +kernel
theorem dX9_findsEdits_147 : decode cX9_findsEdits 147 = .ok (.if_icmp .ne 7, 3) := by decide +kernel
theorem dX9_findsEdits_150 : decode cX9_findsEdits 150 = .ok (.iconst 2, 1) := by decide +kernel
theorem dX9_findsEdits_151 : decode cX9_findsEdits 151 = .ok (.goto 4, 3) := by decide +kernel
theorem dX9_findsEdits_154 : decode cX9_findsEdits 154 = .ok (.iconst 1, 1) := by decide +kernel
theorem dX9_findsEdits_155 : decode cX9_findsEdits 155 = .ok (.isub, 1) := by decide +kernel
theorem dX9_findsEdits_156 : decode cX9_findsEdits 156 = .ok (.istore 4, 2) := by decide +kernel
theorem dX9_findsEdits_158 : decode cX9_findsEdits 158 = .ok (.iload 6, 2) := by decide +kernel
theorem dX9_findsEdits_160 : decode cX9_findsEdits 160 = .ok (.ifCond .ne 35, 3) := by decide +kernel
theorem dX9_findsEdits_163 : decode cX9_findsEdits 163 = .ok (.aload_n 0, 1) := by decide +kernel
theorem dX9_findsEdits_164 : decode cX9_findsEdits 164 = .ok (.getfield 28, 3) := by decide +kernel
theorem dX9_findsEdits_167 : decode cX9_findsEdits 167 = .ok (.aload_n 0, 1) := by decide +kernel
theorem dX9_findsEdits_168 : decode cX9_findsEdits 168 = .ok (.getfield 123, 3) := by decide +kernel
theorem dX9_findsEdits_171 : decode cX9_findsEdits 171 = .ok (.bipush 100, 2) := by decide +kernel
theorem dX9_findsEdits_173 : decode cX9_findsEdits 173 = .ok (.iload 5, 2) := by decide +kernel
theorem dX9_findsEdits_175 : decode cX9_findsEdits 175 = .ok (.imul, 1) := by decide +kernel
theorem dX9_findsEdits_176 : decode cX9_findsEdits 176 = .ok (.bipush 10, 2) := by decide +kernel
theorem dX9_findsEdits_178 : decode cX9_findsEdits 178 = .ok (.iload_n 3, 1) := by decide +kernel
theorem dX9_findsEdits_179 : decode cX9_findsEdits 179 = .ok (.imul, 1) := by decide +kernel
theorem dX9_findsEdits_180 : decode cX9_findsEdits 180 = .ok (.iadd, 1) := by decide +kernel
theorem dX9_findsEdits_181 : decode cX9_findsEdits 181 = .ok (.iload 4, 2) := by decide +kernel
theorem dX9_findsEdits_183 : decode cX9_findsEdits 183 = .ok (.iadd, 1) := by decide +kernel
theorem dX9_findsEdits_184 : decode cX9_findsEdits 184 = .ok (.iastore, 1) := by decide +kernel
theorem dX9_findsEdits_185 : decode cX9_findsEdits 185 = .ok (.aload_n 0, 1) := by decide +kernel
theorem dX9_findsEdits_186 : decode cX9_findsEdits 186 = .ok (.dup, 1) := by decide +kernel
theorem dX9_findsEdits_187 : decode cX9_findsEdits 187 = .ok (.getfield 123, 3) := by decide +kernel
theorem dX9_findsEdits_190 : decode cX9_findsEdits 190 = .ok (.iconst 1, 1) := by decide +kernel
theorem dX9_findsEdits_191 : decode cX9_findsEdits 191 = .ok (.iadd, 1) := by decide +kernel
theorem dX9_findsEdits_192 : decode cX9_findsEdits 192 = .ok (.putfield 123, 3) := by decide +kernel
theorem dX9_findsEdits_195 : decode cX9_findsEdits 195 = .ok (.goto (-172), 3) := by decide +kernel
theorem dX9_findsEdits_198 : decode cX9_findsEdits 198 = .ok (.return_, 1) := by decide +kernel
theorem dX9_editCount_0 : decode cX9_editCount 0 = .ok (.aload_n 0, 1) := by decide +kernel
theorem dX9_editCount_1 : decode cX9_editCount 1 = .ok (.iload_n 1, 1) := by decide +kernel
theorem dX9_editCount_2 : decode cX9_editCount 2 = .ok (.invokevirtual 68, 3) := by decide +kernel
theorem dX9_editCount_5 : decode cX9_editCount 5 = .ok (.ifCond .eq 11, 3) := by decide +kernel
theorem dX9_editCount_8 : decode cX9_editCount 8 = .ok (.aload_n 0, 1) := by decide +kernel
theorem dX9_editCount_9 : decode cX9_editCount 9 = .ok (.iload_n 2, 1) := by decide +kernel
theorem dX9_editCount_10 : decode cX9_editCount 10 = .ok (.invokevirtual 68, 3) := by decide +kernel
theorem dX9_editCount_13 : decode cX9_editCount 13 = .ok (.ifCond .ne 5, 3) := by decide +kernel
theorem dX9_editCount_16 : decode cX9_editCount 16 = .ok (.iconst (-1), 1) := by decide +kernel
theorem dX9_editCount_17 : decode cX9_editCount 17 = .ok (.ireturn, 1) := by decide +kernel
theorem dX9_editCount_18 : decode cX9_editCount 18 = .ok (.aload_n 0, 1) := by decide +kernel
theorem dX9_editCount_19 : decode cX9_editCount 19 = .ok (.iload_n 1, 1) := by decide +kernel
theorem dX9_editCount_20 : decode cX9_editCount 20 = .ok (.iload_n 2, 1) := by decide +kernel
theorem dX9_editCount_21 : decode cX9_editCount 21 = .ok (.invokevirtual 126, 3) := by decide +kernel
theorem dX9_editCount_24 : decode cX9_editCount 24 = .ok (.aload_n 0, 1) := by decide +kernel
theorem dX9_editCount_25 : decode cX9_editCount 25 = .ok (.getfield 123, 3) := by decide +kernel
theorem dX9_editCount_28 : decode cX9_editCount 28 = .ok (.ireturn, 1) := by decide +kernel
theorem dX9_editAt_0 : decode cX9_editAt 0 = .ok (.aload_n 0, 1) := by decide +kernel
theorem dX9_editAt_1 : decode cX9_editAt 1 = .ok (.iload_n 1, 1) := by decide +kernel
theorem dX9_editAt_2 : decode cX9_editAt 2 = .ok (.invokevirtual 68, 3) := by decide +kernel
theorem dX9_editAt_5 : decode cX9_editAt 5 = .ok (.ifCond .eq 15, 3) := by decide +kernel
theorem dX9_editAt_8 : decode cX9_editAt 8 = .ok (.aload_n 0, 1) := by decide +kernel
theorem dX9_editAt_9 : decode cX9_editAt 9 = .ok (.iload_n 2, 1) := by decide +kernel
theorem dX9_editAt_10 : decode cX9_editAt 10 = .ok (.invokevirtual 68, 3) := by decide +kernel
theorem dX9_editAt_13 : decode cX9_editAt 13 = .ok (.ifCond .eq 7, 3) := by decide +kernel
theorem dX9_editAt_16 : decode cX9_editAt 16 = .ok (.iload_n 3, 1) := by decide +kernel
theorem dX9_editAt_17 : decode cX9_editAt 17 = .ok (.ifCond .ge 5, 3) := by decide +kernel
theorem dX9_editAt_20 : decode cX9_editAt 20 = .ok (.iconst (-1), 1) := by decide +kernel
theorem dX9_editAt_21 : decode cX9_editAt 21 = .ok (.ireturn, 1) := by decide +kernel
theorem dX9_editAt_22 : decode cX9_editAt 22 = .ok (.aload_n 0, 1) := by decide +kernel
theorem dX9_editAt_23 : decode cX9_editAt 23 = .ok (.iload_n 1, 1) := by decide +kernel
theorem dX9_editAt_24 : decode cX9_editAt 24 = .ok (.iload_n 2, 1) := by decide +kernel
theorem dX9_editAt_25 : decode cX9_editAt 25 = .ok (.invokevirtual 126, 3) := by decide +kernel
theorem dX9_editAt_28 : decode cX9_editAt 28 = .ok (.iload_n 3, 1) := by decide +kernel
theorem dX9_editAt_29 : decode cX9_editAt 29 = .ok (.aload_n 0, 1) := by decide +kernel
theorem dX9_editAt_30 : decode cX9_editAt 30 = .ok (.getfield 123, 3) := by decide +kernel
theorem dX9_editAt_33 : decode cX9_editAt 33 = .ok (.if_icmp .ge 19, 3) := by decide +kernel
theorem dX9_editAt_36 : decode cX9_editAt 36 = .ok (.aload_n 0, 1) := by decide +kernel
theorem dX9_editAt_37 : decode cX9_editAt 37 = .ok (.getfield 28, 3) := by decide +kernel
theorem dX9_editAt_40 : decode cX9_editAt 40 = .ok (.aload_n 0, 1) := by decide +kernel
theorem dX9_editAt_41 : decode cX9_editAt 41 = .ok (.getfield 123, 3) := by decide +kernel
theorem dX9_editAt_44 : decode cX9_editAt 44 = .ok (.iconst 1, 1) := by decide +kernel
theorem dX9_editAt_45 : decode cX9_editAt 45 = .ok (.isub, 1) := by decide +kernel
theorem dX9_editAt_46 : decode cX9_editAt 46 = .ok (.iload_n 3, 1) := by decide +kernel
theorem dX9_editAt_47 : decode cX9_editAt 47 = .ok (.isub, 1) := by decide +kernel
theorem dX9_editAt_48 : decode cX9_editAt 48 = .ok (.iaload, 1) := by decide +kernel
theorem dX9_editAt_49 : decode cX9_editAt 49 = .ok (.goto 5, 3) := by decide +kernel
theorem dX9_editAt_52 : decode cX9_editAt 52 = .ok (.bipush (-4), 2) := by decide +kernel
theorem dX9_editAt_54 : decode cX9_editAt 54 = .ok (.ireturn, 1) := by decide +kernel
theorem dX9_nearest_0 : decode cX9_nearest 0 = .ok (.aload_n 0, 1) := by decide +kernel
theorem dX9_nearest_1 : decode cX9_nearest 1 = .ok (.iload_n 1, 1) := by decide +kernel
theorem dX9_nearest_2 : decode cX9_nearest 2 = .ok (.invokevirtual 68, 3) := by decide +kernel
theorem dX9_nearest_5 : decode cX9_nearest 5 = .ok (.ifCond .ne 5, 3) := by decide +kernel
theorem dX9_nearest_8 : decode cX9_nearest 8 = .ok (.iconst (-1), 1) := by decide +kernel
theorem dX9_nearest_9 : decode cX9_nearest 9 = .ok (.ireturn, 1) := by decide +kernel
theorem dX9_nearest_10 : decode cX9_nearest 10 = .ok (.bipush (-4), 2) := by decide +kernel
theorem dX9_nearest_12 : decode cX9_nearest 12 = .ok (.istore_n 2, 1) := by decide +kernel
theorem dX9_nearest_13 : decode cX9_nearest 13 = .ok (.iconst 0, 1) := by decide +kernel
theorem dX9_nearest_14 : decode cX9_nearest 14 = .ok (.istore_n 3, 1) := by decide +kernel
theorem dX9_nearest_15 : decode cX9_nearest 15 = .ok (.iconst 0, 1) := by decide +kernel
theorem dX9_nearest_16 : decode cX9_nearest 16 = .ok (.istore 4, 2) := by decide +kernel
theorem dX9_nearest_18 : decode cX9_nearest 18 = .ok (.iload 4, 2) := by decide +kernel
theorem dX9_nearest_20 : decode cX9_nearest 20 = .ok (.aload_n 0, 1) := by decide +kernel
theorem dX9_nearest_21 : decode cX9_nearest 21 = .ok (.getfield 7, 3) := by decide +kernel
theorem dX9_nearest_24 : decode cX9_nearest 24 = .ok (.iconst 0, 1) := by decide +kernel
theorem dX9_nearest_25 : decode cX9_nearest 25 = .ok (.iaload, 1) := by decide +kernel
theorem dX9_nearest_26 : decode cX9_nearest 26 = .ok (.if_icmp .ge 58, 3) := by decide +kernel
theorem dX9_nearest_29 : decode cX9_nearest 29 = .ok (.aload_n 0, 1) := by decide +kernel
theorem dX9_nearest_30 : decode cX9_nearest 30 = .ok (.iload 4, 2) := by decide +kernel
theorem dX9_nearest_32 : decode cX9_nearest 32 = .ok (.invokevirtual 76, 3) := by decide +kernel
theorem dX9_nearest_35 : decode cX9_nearest 35 = .ok (.istore 5, 2) := by decide +kernel
theorem dX9_nearest_37 : decode cX9_nearest 37 = .ok (.iload 5, 2) := by decide +kernel
theorem dX9_nearest_39 : decode cX9_nearest 39 = .ok (.iload_n 1, 1) := by decide +kernel
theorem dX9_nearest_40 : decode cX9_nearest 40 = .ok (.if_icmp .ne 7, 3) := by decide +kernel
theorem dX9_nearest_43 : decode cX9_nearest 43 = .ok (.iconst 0, 1) := by decide +kernel
theorem dX9_nearest_44 : decode cX9_nearest 44 = .ok (.goto 10, 3) := by decide +kernel
theorem dX9_nearest_47 : decode cX9_nearest 47 = .ok (.aload_n 0, 1) := by decide +kernel
theorem dX9_nearest_48 : decode cX9_nearest 48 = .ok (.iload_n 1, 1) := by decide +kernel
theorem dX9_nearest_49 : decode cX9_nearest 49 = .ok (.iload 5, 2) := by decide +kernel
theorem dX9_nearest_51 : decode cX9_nearest 51 = .ok (.invokevirtual 114, 3) := by decide +kernel
theorem dX9_nearest_54 : decode cX9_nearest 54 = .ok (.istore 6, 2) := by decide +kernel
theorem dX9_nearest_56 : decode cX9_nearest 56 = .ok (.iload 5, 2) := by decide +kernel
theorem dX9_nearest_58 : decode cX9_nearest 58 = .ok (.iload_n 1, 1) := by decide +kernel
theorem dX9_nearest_59 : decode cX9_nearest 59 = .ok (.if_icmp .eq 19, 3) := by decide +kernel
theorem dX9_nearest_62 : decode cX9_nearest 62 = .ok (.iload_n 2, 1) := by decide +kernel
theorem dX9_nearest_63 : decode cX9_nearest 63 = .ok (.ifCond .lt 9, 3) := by decide +kernel
theorem dX9_nearest_66 : decode cX9_nearest 66 = .ok (.iload 6, 2) := by decide +kernel
theorem dX9_nearest_68 : decode cX9_nearest 68 = .ok (.iload_n 3, 1) := by decide +kernel
theorem dX9_nearest_69 : decode cX9_nearest 69 = .ok (.if_icmp .ge 9, 3) := by decide +kernel
theorem dX9_nearest_72 : decode cX9_nearest 72 = .ok (.iload 5, 2) := by decide +kernel
theorem dX9_nearest_74 : decode cX9_nearest 74 = .ok (.istore_n 2, 1) := by decide +kernel
theorem dX9_nearest_75 : decode cX9_nearest 75 = .ok (.iload 6, 2) := by decide +kernel
theorem dX9_nearest_77 : decode cX9_nearest 77 = .ok (.istore_n 3, 1) := by decide +kernel
theorem dX9_nearest_78 : decode cX9_nearest 78 = .ok (.iinc 4 1, 3) := by decide +kernel
theorem dX9_nearest_81 : decode cX9_nearest 81 = .ok (.goto (-63), 3) := by decide +kernel
theorem dX9_nearest_84 : decode cX9_nearest 84 = .ok (.iload_n 2, 1) := by decide +kernel
theorem dX9_nearest_85 : decode cX9_nearest 85 = .ok (.ireturn, 1) := by decide +kernel
theorem dX9_addPattern_0 : decode cX9_addPattern 0 = .ok (.aload_n 0, 1) := by decide +kernel
theorem dX9_addPattern_1 : decode cX9_addPattern 1 = .ok (.getfield 56, 3) := by decide +kernel
theorem dX9_addPattern_4 : decode cX9_addPattern 4 = .ok (.ifCond .ne 6, 3) := by decide +kernel
theorem dX9_addPattern_7 : decode cX9_addPattern 7 = .ok (.bipush (-2), 2) := by decide +kernel
theorem dX9_addPattern_9 : decode cX9_addPattern 9 = .ok (.ireturn, 1) := by decide +kernel
theorem dX9_addPattern_10 : decode cX9_addPattern 10 = .ok (.aload_n 0, 1) := by decide +kernel
theorem dX9_addPattern_11 : decode cX9_addPattern 11 = .ok (.getfield 7, 3) := by decide +kernel
theorem dX9_addPattern_14 : decode cX9_addPattern 14 = .ok (.sipush 133, 3) := by decide +kernel
theorem dX9_addPattern_17 : decode cX9_addPattern 17 = .ok (.iaload, 1) := by decide +kernel
theorem dX9_addPattern_18 : decode cX9_addPattern 18 = .ok (.bipush 6, 2) := by decide +kernel
theorem dX9_addPattern_20 : decode cX9_addPattern 20 = .ok (.if_icmp .ne 6, 3) := by decide +kernel
theorem dX9_addPattern_23 : decode cX9_addPattern 23 = .ok (.bipush (-3), 2) := by decide +kernel
theorem dX9_addPattern_25 : decode cX9_addPattern 25 = .ok (.ireturn, 1) := by decide +kernel
theorem dX9_addPattern_26 : decode cX9_addPattern 26 = .ok (.aload_n 0, 1) := by decide +kernel
theorem dX9_addPattern_27 : decode cX9_addPattern 27 = .ok (.invokevirtual 65, 3) := by decide +kernel
theorem dX9_addPattern_30 : decode cX9_addPattern 30 = .ok (.aload_n 0, 1) := by decide +kernel
theorem dX9_addPattern_31 : decode cX9_addPattern 31 = .ok (.getfield 7, 3) := by decide +kernel
theorem dX9_addPattern_34 : decode cX9_addPattern 34 = .ok (.sipush 133, 3) := by decide +kernel
theorem dX9_addPattern_37 : decode cX9_addPattern 37 = .ok (.iaload, 1) := by decide +kernel
theorem dX9_addPattern_38 : decode cX9_addPattern 38 = .ok (.istore_n 1, 1) := by decide +kernel
theorem dX9_addPattern_39 : decode cX9_addPattern 39 = .ok (.aload_n 0, 1) := by decide +kernel
theorem dX9_addPattern_40 : decode cX9_addPattern 40 = .ok (.getfield 7, 3) := by decide +kernel
theorem dX9_addPattern_43 : decode cX9_addPattern 43 = .ok (.sipush 133, 3) := by decide +kernel
theorem dX9_addPattern_46 : decode cX9_addPattern 46 = .ok (.dup2, 1) := by decide +kernel
theorem dX9_addPattern_47 : decode cX9_addPattern 47 = .ok (.iaload, 1) := by decide +kernel
theorem dX9_addPattern_48 : decode cX9_addPattern 48 = .ok (.iconst 1, 1) := by decide +kernel
theorem dX9_addPattern_49 : decode cX9_addPattern 49 = .ok (.iadd, 1) := by decide +kernel
theorem dX9_addPattern_50 : decode cX9_addPattern 50 = .ok (.iastore, 1) := by decide +kernel
theorem dX9_addPattern_51 : decode cX9_addPattern 51 = .ok (.aload_n 0, 1) := by decide +kernel
theorem dX9_addPattern_52 : decode cX9_addPattern 52 = .ok (.getfield 7, 3) := by decide +kernel
theorem dX9_addPattern_55 : decode cX9_addPattern 55 = .ok (.sipush 134, 3) := by decide +kernel
theorem dX9_addPattern_58 : decode cX9_addPattern 58 = .ok (.iload_n 1, 1) := by decide +kernel
theorem dX9_addPattern_59 : decode cX9_addPattern 59 = .ok (.iadd, 1) := by decide +kernel
theorem dX9_addPattern_60 : decode cX9_addPattern 60 = .ok (.aload_n 0, 1) := by decide +kernel
theorem dX9_addPattern_61 : decode cX9_addPattern 61 = .ok (.getfield 56, 3) := by decide +kernel
theorem dX9_addPattern_64 : decode cX9_addPattern 64 = .ok (.iastore, 1) := by decide +kernel
theorem dX9_addPattern_65 : decode cX9_addPattern 65 = .ok (.iconst 0, 1) := by decide +kernel
theorem dX9_addPattern_66 : decode cX9_addPattern 66 = .ok (.istore_n 2, 1) := by decide +kernel
theorem dX9_addPattern_67 : decode cX9_addPattern 67 = .ok (.iload_n 2, 1) := by decide +kernel
theorem dX9_addPattern_68 : decode cX9_addPattern 68 = .ok (.aload_n 0, 1) := by decide +kernel
theorem dX9_addPattern_69 : decode cX9_addPattern 69 = .ok (.getfield 56, 3) := by decide +kernel
theorem dX9_addPattern_72 : decode cX9_addPattern 72 = .ok (.if_icmp .ge 30, 3) := by decide +kernel
theorem dX9_addPattern_75 : decode cX9_addPattern 75 = .ok (.aload_n 0, 1) := by decide +kernel
theorem dX9_addPattern_76 : decode cX9_addPattern 76 = .ok (.getfield 7, 3) := by decide +kernel
theorem dX9_addPattern_79 : decode cX9_addPattern 79 = .ok (.sipush 140, 3) := by decide +kernel
theorem dX9_addPattern_82 : decode cX9_addPattern 82 = .ok (.bipush 8, 2) := by decide +kernel
theorem dX9_addPattern_84 : decode cX9_addPattern 84 = .ok (.iload_n 1, 1) := by decide +kernel
theorem dX9_addPattern_85 : decode cX9_addPattern 85 = .ok (.imul, 1) := by decide +kernel
theorem dX9_addPattern_86 : decode cX9_addPattern 86 = .ok (.iadd, 1) := by decide +kernel
theorem dX9_addPattern_87 : decode cX9_addPattern 87 = .ok (.iload_n 2, 1) := by decide +kernel
theorem dX9_addPattern_88 : decode cX9_addPattern 88 = .ok (.iadd, 1) := by decide +kernel
theorem dX9_addPattern_89 : decode cX9_addPattern 89 = .ok (.aload_n 0, 1) := by decide +kernel
theorem dX9_addPattern_90 : decode cX9_addPattern 90 = .ok (.getfield 16, 3) := by decide +kernel
theorem dX9_addPattern_93 : decode cX9_addPattern 93 = .ok (.iload_n 2, 1) := by decide +kernel
theorem dX9_addPattern_94 : decode cX9_addPattern 94 = .ok (.iaload, 1) := by decide +kernel
theorem dX9_addPattern_95 : decode cX9_addPattern 95 = .ok (.iastore, 1) := by decide +kernel
theorem dX9_addPattern_96 : decode cX9_addPattern 96 = .ok (.iinc 2 1, 3) := by decide +kernel
theorem dX9_addPattern_99 : decode cX9_addPattern 99 = .ok (.goto (-32), 3) := by decide +kernel
theorem dX9_addPattern_102 : decode cX9_addPattern 102 = .ok (.aload_n 0, 1) := by decide +kernel
theorem dX9_addPattern_103 : decode cX9_addPattern 103 = .ok (.iconst 0, 1) := by decide +kernel
theorem dX9_addPattern_104 : decode cX9_addPattern 104 = .ok (.putfield 56, 3) := by decide +kernel
theorem dX9_addPattern_107 : decode cX9_addPattern 107 = .ok (.iload_n 1, 1) := by decide +kernel
theorem dX9_addPattern_108 : decode cX9_addPattern 108 = .ok (.ireturn, 1) := by decide +kernel
theorem dX9_removePattern_0 : decode cX9_removePattern 0 = .ok (.aload_n 0, 1) := by decide +kernel
theorem dX9_removePattern_1 : decode cX9_removePattern 1 = .ok (.iload_n 1, 1) := by decide +kernel
theorem dX9_removePattern_2 : decode cX9_removePattern 2 = .ok (.invokevirtual 130, 3) := by decide +kernel
theorem dX9_removePattern_5 : decode cX9_removePattern 5 = .ok (.ifCond .ne 5, 3) := by decide +kernel
theorem dX9_removePattern_8 : decode cX9_removePattern 8 = .ok (.iconst (-1), 1) := by decide +kernel
theorem dX9_removePattern_9 : decode cX9_removePattern 9 = .ok (.ireturn, 1) := by decide +kernel
theorem dX9_removePattern_10 : decode cX9_removePattern 10 = .ok (.aload_n 0, 1) := by decide +kernel
theorem dX9_removePattern_11 : decode cX9_removePattern 11 = .ok (.invokevirtual 65, 3) := by decide +kernel
theorem dX9_removePattern_14 : decode cX9_removePattern 14 = .ok (.aload_n 0, 1) := by decide +kernel
theorem dX9_removePattern_15 : decode cX9_removePattern 15 = .ok (.getfield 7, 3) := by decide +kernel
theorem dX9_removePattern_18 : decode cX9_removePattern 18 = .ok (.sipush 133, 3) := by decide +kernel
theorem dX9_removePattern_21 : decode cX9_removePattern 21 = .ok (.dup2, 1) := by decide +kernel
theorem dX9_removePattern_22 : decode cX9_removePattern 22 = .ok (.iaload, 1) := by decide +kernel
theorem dX9_removePattern_23 : decode cX9_removePattern 23 = .ok (.iconst 1, 1) := by decide +kernel
theorem dX9_removePattern_24 : decode cX9_removePattern 24 = .ok (.isub, 1) := by decide +kernel
theorem dX9_removePattern_25 : decode cX9_removePattern 25 = .ok (.iastore, 1) := by decide +kernel
theorem dX9_removePattern_26 : decode cX9_removePattern 26 = .ok (.iload_n 1, 1) := by decide +kernel
theorem dX9_removePattern_27 : decode cX9_removePattern 27 = .ok (.istore_n 2, 1) := by decide +kernel
theorem dX9_removePattern_28 : decode cX9_removePattern 28 = .ok (.iload_n 2, 1) := by decide +kernel
theorem dX9_removePattern_29 : decode cX9_removePattern 29 = .ok (.aload_n 0, 1) := by decide +kernel
theorem dX9_removePattern_30 : decode cX9_removePattern 30 = .ok (.getfield 7, 3) := by decide +kernel
theorem dX9_removePattern_33 : decode cX9_removePattern 33 = .ok (.sipush 133, 3) := by decide +kernel
theorem dX9_removePattern_36 : decode cX9_removePattern 36 = .ok (.iaload, 1) := by decide +kernel
theorem dX9_removePattern_37 : decode cX9_removePattern 37 = .ok (.if_icmp .ge 78, 3) := by decide +kernel
theorem dX9_removePattern_40 : decode cX9_removePattern 40 = .ok (.aload_n 0, 1) := by decide +kernel
theorem dX9_removePattern_41 : decode cX9_removePattern 41 = .ok (.getfield 7, 3) := by decide +kernel
theorem dX9_removePattern_44 : decode cX9_removePattern 44 = .ok (.sipush 134, 3) := by decide +kernel
theorem dX9_removePattern_47 : decode cX9_removePattern 47 = .ok (.iload_n 2, 1) := by decide +kernel
theorem dX9_removePattern_48 : decode cX9_removePattern 48 = .ok (.iadd, 1) := by decide +kernel
theorem dX9_removePattern_49 : decode cX9_removePattern 49 = .ok (.aload_n 0, 1) := by decide +kernel
theorem dX9_removePattern_50 : decode cX9_removePattern 50 = .ok (.getfield 7, 3) := by decide +kernel
theorem dX9_removePattern_53 : decode cX9_removePattern 53 = .ok (.sipush 134, 3) := by decide +kernel
theorem dX9_removePattern_56 : decode cX9_removePattern 56 = .ok (.iload_n 2, 1) := by decide +kernel
theorem dX9_removePattern_57 : decode cX9_removePattern 57 = .ok (.iadd, 1) := by decide +kernel
theorem dX9_removePattern_58 : decode cX9_removePattern 58 = .ok (.iconst 1, 1) := by decide +kernel
theorem dX9_removePattern_59 : decode cX9_removePattern 59 = .ok (.iadd, 1) := by decide +kernel
theorem dX9_removePattern_60 : decode cX9_removePattern 60 = .ok (.iaload, 1) := by decide +kernel
theorem dX9_removePattern_61 : decode cX9_removePattern 61 = .ok (.iastore, 1) := by decide +kernel
theorem dX9_removePattern_62 : decode cX9_removePattern 62 = .ok (.iconst 0, 1) := by decide +kernel
theorem dX9_removePattern_63 : decode cX9_removePattern 63 = .ok (.istore_n 3, 1) := by decide +kernel
theorem dX9_removePattern_64 : decode cX9_removePattern 64 = .ok (.iload_n 3, 1) := by decide +kernel
theorem dX9_removePattern_65 : decode cX9_removePattern 65 = .ok (.bipush 8, 2) := by decide +kernel
theorem dX9_removePattern_67 : decode cX9_removePattern 67 = .ok (.if_icmp .ge 42, 3) := by decide +kernel
theorem dX9_removePattern_70 : decode cX9_removePattern 70 = .ok (.aload_n 0, 1) := by decide +kernel
theorem dX9_removePattern_71 : decode cX9_removePattern 71 = .ok (.getfield 7, 3) := by decide +kernel
theorem dX9_removePattern_74 : decode cX9_removePattern 74 = .ok (.sipush 140, 3) := by decide +kernel
theorem dX9_removePattern_77 : decode cX9_removePattern 77 = .ok (.bipush 8, 2) := by decide +kernel
theorem dX9_removePattern_79 : decode cX9_removePattern 79 = .ok (.iload_n 2, 1) := by decide +kernel
theorem dX9_removePattern_80 : decode cX9_removePattern 80 = .ok (.imul, 1) := by decide +kernel
theorem dX9_removePattern_81 : decode cX9_removePattern 81 = .ok (.iadd, 1) := by decide +kernel
theorem dX9_removePattern_82 : decode cX9_removePattern 82 = .ok (.iload_n 3, 1) := by decide +kernel
theorem dX9_removePattern_83 : decode cX9_removePattern 83 = .ok (.iadd, 1) := by decide +kernel
theorem dX9_removePattern_84 : decode cX9_removePattern 84 = .ok (.aload_n 0, 1) := by decide +kernel
theorem dX9_removePattern_85 : decode cX9_removePattern 85 = .ok (.getfield 7, 3) := by decide +kernel
theorem dX9_removePattern_88 : decode cX9_removePattern 88 = .ok (.sipush 140, 3) := by decide +kernel
theorem dX9_removePattern_91 : decode cX9_removePattern 91 = .ok (.bipush 8, 2) := by decide +kernel
theorem dX9_removePattern_93 : decode cX9_removePattern 93 = .ok (.iload_n 2, 1) := by decide +kernel
theorem dX9_removePattern_94 : decode cX9_removePattern 94 = .ok (.imul, 1) := by decide +kernel
theorem dX9_removePattern_95 : decode cX9_removePattern 95 = .ok (.iadd, 1) := by decide +kernel
theorem dX9_removePattern_96 : decode cX9_removePattern 96 = .ok (.bipush 8, 2) := by decide +kernel
theorem dX9_removePattern_98 : decode cX9_removePattern 98 = .ok (.iadd, 1) := by decide +kernel
theorem dX9_removePattern_99 : decode cX9_removePattern 99 = .ok (.iload_n 3, 1) := by decide +kernel
theorem dX9_removePattern_100 : decode cX9_removePattern 100 = .ok (.iadd, 1) := by decide +kernel
theorem dX9_removePattern_101 : decode cX9_removePattern 101 = .ok (.iaload, 1) := by decide +kernel
theorem dX9_removePattern_102 : decode cX9_removePattern 102 = .ok (.iastore, 1) := by decide +kernel
theorem dX9_removePattern_103 : decode cX9_removePattern 103 = .ok (.iinc 3 1, 3) := by decide +kernel
theorem dX9_removePattern_106 : decode cX9_removePattern 106 = .ok (.goto (-42), 3) := by decide +kernel
theorem dX9_removePattern_109 : decode cX9_removePattern 109 = .ok (.iinc 2 1, 3) := by decide +kernel
theorem dX9_removePattern_112 : decode cX9_removePattern 112 = .ok (.goto (-84), 3) := by decide +kernel
theorem dX9_removePattern_115 : decode cX9_removePattern 115 = .ok (.aload_n 0, 1) := by decide +kernel
theorem dX9_removePattern_116 : decode cX9_removePattern 116 = .ok (.getfield 7, 3) := by decide +kernel
theorem dX9_removePattern_119 : decode cX9_removePattern 119 = .ok (.sipush 133, 3) := by decide +kernel
theorem dX9_removePattern_122 : decode cX9_removePattern 122 = .ok (.iaload, 1) := by decide +kernel
theorem dX9_removePattern_123 : decode cX9_removePattern 123 = .ok (.ireturn, 1) := by decide +kernel
theorem dX9_tokensOf_0 : decode cX9_tokensOf 0 = .ok (.iconst 0, 1) := by decide +kernel
theorem dX9_tokensOf_1 : decode cX9_tokensOf 1 = .ok (.istore 4, 2) := by decide +kernel
theorem dX9_tokensOf_3 : decode cX9_tokensOf 3 = .ok (.iconst 0, 1) := by decide +kernel
theorem dX9_tokensOf_4 : decode cX9_tokensOf 4 = .ok (.istore 5, 2) := by decide +kernel
theorem dX9_tokensOf_6 : decode cX9_tokensOf 6 = .ok (.iload 5, 2) := by decide +kernel
theorem dX9_tokensOf_8 : decode cX9_tokensOf 8 = .ok (.aload_n 0, 1) := by decide +kernel
theorem dX9_tokensOf_9 : decode cX9_tokensOf 9 = .ok (.getfield 7, 3) := by decide +kernel
theorem dX9_tokensOf_12 : decode cX9_tokensOf 12 = .ok (.sipush 134, 3) := by decide +kernel
theorem dX9_tokensOf_15 : decode cX9_tokensOf 15 = .ok (.iload_n 1, 1) := by decide +kernel
theorem dX9_tokensOf_16 : decode cX9_tokensOf 16 = .ok (.iadd, 1) := by decide +kernel
theorem dX9_tokensOf_17 : decode cX9_tokensOf 17 = .ok (.iaload, 1) := by decide +kernel
theorem dX9_tokensOf_18 : decode cX9_tokensOf 18 = .ok (.if_icmp .ge 46, 3) := by decide +kernel
theorem dX9_tokensOf_21 : decode cX9_tokensOf 21 = .ok (.iload 4, 2) := by decide +kernel
theorem dX9_tokensOf_23 : decode cX9_tokensOf 23 = .ok (.aload_n 0, 1) := by decide +kernel
theorem dX9_tokensOf_24 : decode cX9_tokensOf 24 = .ok (.getfield 7, 3) := by decide +kernel
theorem dX9_tokensOf_27 : decode cX9_tokensOf 27 = .ok (.sipush 140, 3) := by decide +kernel
theorem dX9_tokensOf_30 : decode cX9_tokensOf 30 = .ok (.bipush 8, 2) := by decide +kernel
theorem dX9_tokensOf_32 : decode cX9_tokensOf 32 = .ok (.iload_n 1, 1) := by decide +kernel
theorem dX9_tokensOf_33 : decode cX9_tokensOf 33 = .ok (.imul, 1) := by decide +kernel
theorem dX9_tokensOf_34 : decode cX9_tokensOf 34 = .ok (.iadd, 1) := by decide +kernel
theorem dX9_tokensOf_35 : decode cX9_tokensOf 35 = .ok (.iload 5, 2) := by decide +kernel
theorem dX9_tokensOf_37 : decode cX9_tokensOf 37 = .ok (.iadd, 1) := by decide +kernel
theorem dX9_tokensOf_38 : decode cX9_tokensOf 38 = .ok (.iaload, 1) := by decide +kernel
theorem dX9_tokensOf_39 : decode cX9_tokensOf 39 = .ok (.i2l, 1) := by decide +kernel
theorem dX9_tokensOf_40 : decode cX9_tokensOf 40 = .ok (.iload_n 2, 1) := by decide +kernel
theorem dX9_tokensOf_41 : decode cX9_tokensOf 41 = .ok (.i2l, 1) := by decide +kernel
theorem dX9_tokensOf_42 : decode cX9_tokensOf 42 = .ok (.iload_n 3, 1) := by decide +kernel
theorem dX9_tokensOf_43 : decode cX9_tokensOf 43 = .ok (.i2l, 1) := by decide +kernel
theorem dX9_tokensOf_44 : decode cX9_tokensOf 44 = .ok (.invokestatic 50, 3) := by decide +kernel
theorem dX9_tokensOf_47 : decode cX9_tokensOf 47 = .ok (.ifCond .eq 7, 3) := by decide +kernel
theorem dX9_tokensOf_50 : decode cX9_tokensOf 50 = .ok (.iconst 1, 1) := by decide +kernel
theorem dX9_tokensOf_51 : decode cX9_tokensOf 51 = .ok (.goto 4, 3) := by decide +kernel
theorem dX9_tokensOf_54 : decode cX9_tokensOf 54 = .ok (.iconst 0, 1) := by decide +kernel
theorem dX9_tokensOf_55 : decode cX9_tokensOf 55 = .ok (.iadd, 1) := by decide +kernel
theorem dX9_tokensOf_56 : decode cX9_tokensOf 56 = .ok (.istore 4, 2) := by decide +kernel
theorem dX9_tokensOf_58 : decode cX9_tokensOf 58 = .ok (.iinc 5 1, 3) := by decide +kernel
theorem dX9_tokensOf_61 : decode cX9_tokensOf 61 = .ok (.goto (-55), 3) := by decide +kernel
theorem dX9_tokensOf_64 : decode cX9_tokensOf 64 = .ok (.iload 4, 2) := by decide +kernel
theorem dX9_tokensOf_66 : decode cX9_tokensOf 66 = .ok (.ireturn, 1) := by decide +kernel
theorem dX9_isFilled_0 : decode cX9_isFilled 0 = .ok (.iconst 0, 1) := by decide +kernel
theorem dX9_isFilled_1 : decode cX9_isFilled 1 = .ok (.istore_n 3, 1) := by decide +kernel
theorem dX9_isFilled_2 : decode cX9_isFilled 2 = .ok (.iload_n 3, 1) := by decide +kernel
theorem dX9_isFilled_3 : decode cX9_isFilled 3 = .ok (.iconst 4, 1) := by decide +kernel
theorem dX9_isFilled_4 : decode cX9_isFilled 4 = .ok (.if_icmp .ge 16, 3) := by decide +kernel
theorem dX9_isFilled_7 : decode cX9_isFilled 7 = .ok (.aload_n 0, 1) := by decide +kernel
theorem dX9_isFilled_8 : decode cX9_isFilled 8 = .ok (.getfield 34, 3) := by decide +kernel
theorem dX9_isFilled_11 : decode cX9_isFilled 11 = .ok (.iload_n 3, 1) := by decide +kernel
theorem dX9_isFilled_12 : decode cX9_isFilled 12 = .ok (.iconst (-1), 1) := by decide +kernel
theorem dX9_isFilled_13 : decode cX9_isFilled 13 = .ok (.iastore, 1) := by decide +kernel
theorem dX9_isFilled_14 : decode cX9_isFilled 14 = .ok (.iinc 3 1, 3) := by decide +kernel
theorem dX9_isFilled_17 : decode cX9_isFilled 17 = .ok (.goto (-15), 3) := by decide +kernel
theorem dX9_isFilled_20 : decode cX9_isFilled 20 = .ok (.iconst 0, 1) := by decide +kernel
theorem dX9_isFilled_21 : decode cX9_isFilled 21 = .ok (.istore_n 3, 1) := by decide +kernel
theorem dX9_isFilled_22 : decode cX9_isFilled 22 = .ok (.iconst 0, 1) := by decide +kernel
theorem dX9_isFilled_23 : decode cX9_isFilled 23 = .ok (.istore 4, 2) := by decide +kernel
theorem dX9_isFilled_25 : decode cX9_isFilled 25 = .ok (.iconst 0, 1) := by decide +kernel
theorem dX9_isFilled_26 : decode cX9_isFilled 26 = .ok (.istore 5, 2) := by decide +kernel
theorem dX9_isFilled_28 : decode cX9_isFilled 28 = .ok (.iload 5, 2) := by decide +kernel
theorem dX9_isFilled_30 : decode cX9_isFilled 30 = .ok (.aload_n 0, 1) := by decide +kernel
theorem dX9_isFilled_31 : decode cX9_isFilled 31 = .ok (.getfield 7, 3) := by decide +kernel
theorem dX9_isFilled_34 : decode cX9_isFilled 34 = .ok (.sipush 134, 3) := by decide +kernel
theorem dX9_isFilled_37 : decode cX9_isFilled 37 = .ok (.iload_n 1, 1) := by decide +kernel
theorem dX9_isFilled_38 : decode cX9_isFilled 38 = .ok (.iadd, 1) := by decide +kernel
theorem dX9_isFilled_39 : decode cX9_isFilled 39 = .ok (.iaload, 1) := by decide +kernel
theorem dX9_isFilled_40 : decode cX9_isFilled 40 = .ok (.if_icmp .ge 152, 3) := by decide +kernel
theorem dX9_isFilled_43 : decode cX9_isFilled 43 = .ok (.aload_n 0, 1) := by decide +kernel
theorem dX9_isFilled_44 : decode cX9_isFilled 44 = .ok (.getfield 7, 3) := by decide +kernel
theorem dX9_isFilled_47 : decode cX9_isFilled 47 = .ok (.sipush 140, 3) := by decide +kernel
theorem dX9_isFilled_50 : decode cX9_isFilled 50 = .ok (.bipush 8, 2) := by decide +kernel
theorem dX9_isFilled_52 : decode cX9_isFilled 52 = .ok (.iload_n 1, 1) := by decide +kernel
theorem dX9_isFilled_53 : decode cX9_isFilled 53 = .ok (.imul, 1) := by decide +kernel
theorem dX9_isFilled_54 : decode cX9_isFilled 54 = .ok (.iadd, 1) := by decide +kernel
theorem dX9_isFilled_55 : decode cX9_isFilled 55 = .ok (.iload 5, 2) := by decide +kernel
theorem dX9_isFilled_57 : decode cX9_isFilled 57 = .ok (.iadd, 1) := by decide +kernel
theorem dX9_isFilled_58 : decode cX9_isFilled 58 = .ok (.iaload, 1) := by decide +kernel
theorem dX9_isFilled_59 : decode cX9_isFilled 59 = .ok (.istore 6, 2) := by decide +kernel
theorem dX9_isFilled_61 : decode cX9_isFilled 61 = .ok (.iload 6, 2) := by decide +kernel
theorem dX9_isFilled_63 : decode cX9_isFilled 63 = .ok (.bipush 64, 2) := by decide +kernel
theorem dX9_isFilled_65 : decode cX9_isFilled 65 = .ok (.if_icmp .ne 19, 3) := by decide +kernel
theorem dX9_isFilled_68 : decode cX9_isFilled 68 = .ok (.iload_n 3, 1) := by decide +kernel
theorem dX9_isFilled_69 : decode cX9_isFilled 69 = .ok (.aload_n 0, 1) := by decide +kernel
theorem dX9_isFilled_70 : decode cX9_isFilled 70 = .ok (.getfield 31, 3) := by decide +kernel
theorem dX9_isFilled_73 : decode cX9_isFilled 73 = .ok (.iload 4, 2) := by decide +kernel
theorem dX9_isFilled_75 : decode cX9_isFilled 75 = .ok (.iaload, 1) := by decide +kernel
theorem dX9_isFilled_76 : decode cX9_isFilled 76 = .ok (.iadd, 1) := by decide +kernel
theorem dX9_isFilled_77 : decode cX9_isFilled 77 = .ok (.istore_n 3, 1) := by decide +kernel
theorem dX9_isFilled_78 : decode cX9_isFilled 78 = .ok (.iinc 4 1, 3) := by decide +kernel
theorem dX9_isFilled_81 : decode cX9_isFilled 81 = .ok (.goto 105, 3) := by decide +kernel
theorem dX9_isFilled_84 : decode cX9_isFilled 84 = .ok (.aload_n 0, 1) := by decide +kernel
theorem dX9_isFilled_85 : decode cX9_isFilled 85 = .ok (.getfield 7, 3) := by decide +kernel
theorem dX9_isFilled_88 : decode cX9_isFilled 88 = .ok (.bipush 13, 2) := by decide +kernel
theorem dX9_isFilled_90 : decode cX9_isFilled 90 = .ok (.bipush 8, 2) := by decide +kernel
theorem dX9_isFilled_92 : decode cX9_isFilled 92 = .ok (.iload_n 2, 1) := by decide +kernel
theorem dX9_isFilled_93 : decode cX9_isFilled 93 = .ok (.imul, 1) := by decide +kernel
theorem dX9_isFilled_94 : decode cX9_isFilled 94 = .ok (.iadd, 1) := by decide +kernel
theorem dX9_isFilled_95 : decode cX9_isFilled 95 = .ok (.iload_n 3, 1) := by decide +kernel
theorem dX9_isFilled_96 : decode cX9_isFilled 96 = .ok (.iadd, 1) := by decide +kernel
theorem dX9_isFilled_97 : decode cX9_isFilled 97 = .ok (.iaload, 1) := by decide +kernel
theorem dX9_isFilled_98 : decode cX9_isFilled 98 = .ok (.istore 7, 2) := by decide +kernel
theorem dX9_isFilled_100 : decode cX9_isFilled 100 = .ok (.iload 6, 2) := by decide +kernel
theorem dX9_isFilled_102 : decode cX9_isFilled 102 = .ok (.bipush 60, 2) := by decide +kernel
theorem dX9_isFilled_104 : decode cX9_isFilled 104 = .ok (.if_icmp .ge 18, 3) := by decide +kernel
theorem dX9_isFilled_107 : decode cX9_isFilled 107 = .ok (.iload 7, 2) := by decide +kernel
theorem dX9_isFilled_109 : decode cX9_isFilled 109 = .ok (.iload 6, 2) := by decide +kernel
theorem dX9_isFilled_111 : decode cX9_isFilled 111 = .ok (.if_icmp .ne 7, 3) := by decide +kernel
theorem dX9_isFilled_114 : decode cX9_isFilled 114 = .ok (.iconst 1, 1) := by decide +kernel
theorem dX9_isFilled_115 : decode cX9_isFilled 115 = .ok (.goto 40, 3) := by decide +kernel
theorem dX9_isFilled_118 : decode cX9_isFilled 118 = .ok (.iconst 0, 1) := by decide +kernel
theorem dX9_isFilled_119 : decode cX9_isFilled 119 = .ok (.goto 36, 3) := by decide +kernel
theorem dX9_isFilled_122 : decode cX9_isFilled 122 = .ok (.aload_n 0, 1) := by decide +kernel
theorem dX9_isFilled_123 : decode cX9_isFilled 123 = .ok (.getfield 34, 3) := by decide +kernel
theorem dX9_isFilled_126 : decode cX9_isFilled 126 = .ok (.iload 6, 2) := by decide +kernel
theorem dX9_isFilled_128 : decode cX9_isFilled 128 = .ok (.bipush 60, 2) := by decide +kernel
theorem dX9_isFilled_130 : decode cX9_isFilled 130 = .ok (.isub, 1) := by decide +kernel
theorem dX9_isFilled_131 : decode cX9_isFilled 131 = .ok (.iaload, 1) := by decide +kernel
theorem dX9_isFilled_132 : decode cX9_isFilled 132 = .ok (.ifCond .lt 18, 3) := by decide +kernel
theorem dX9_isFilled_135 : decode cX9_isFilled 135 = .ok (.aload_n 0, 1) := by decide +kernel
theorem dX9_isFilled_136 : decode cX9_isFilled 136 = .ok (.getfield 34, 3) := by decide +kernel
theorem dX9_isFilled_139 : decode cX9_isFilled 139 = .ok (.iload 6, 2) := by decide +kernel
theorem dX9_isFilled_141 : decode cX9_isFilled 141 = .ok (.bipush 60, 2) := by decide +kernel
theorem dX9_isFilled_143 : decode cX9_isFilled 143 = .ok (.isub, 1) := by decide +kernel
theorem dX9_isFilled_144 : decode cX9_isFilled 144 = .ok (.iaload, 1) := by decide +kernel
theorem dX9_isFilled_145 : decode cX9_isFilled 145 = .ok (.iload 7, 2) := by decide +kernel
theorem dX9_isFilled_147 : decode cX9_isFilled 147 = .ok (.if_icmp .ne 7, 3) := by decide +kernel
theorem dX9_isFilled_150 : decode cX9_isFilled 150 = .ok (.iconst 1, 1) := by decide +kernel
theorem dX9_isFilled_151 : decode cX9_isFilled 151 = .ok (.goto 4, 3) := by decide +kernel
theorem dX9_isFilled_154 : decode cX9_isFilled 154 = .ok (.iconst 0, 1) := by decide +kernel
theorem dX9_isFilled_155 : decode cX9_isFilled 155 = .ok (.istore 8, 2) := by decide +kernel
theorem dX9_isFilled_157 : decode cX9_isFilled 157 = .ok (.iload 8, 2) := by decide +kernel
theorem dX9_isFilled_159 : decode cX9_isFilled 159 = .ok (.ifCond .ne 5, 3) := by decide +kernel
theorem dX9_isFilled_162 : decode cX9_isFilled 162 = .ok (.iconst 0, 1) := by decide +kernel
theorem dX9_isFilled_163 : decode cX9_isFilled 163 = .ok (.ireturn, 1) := by decide +kernel
theorem dX9_isFilled_164 : decode cX9_isFilled 164 = .ok (.iload 6, 2) := by decide +kernel
theorem dX9_isFilled_166 : decode cX9_isFilled 166 = .ok (.bipush 60, 2) := by decide +kernel
theorem dX9_isFilled_168 : decode cX9_isFilled 168 = .ok (.if_icmp .lt 15, 3) := by decide +kernel
theorem dX9_isFilled_171 : decode cX9_isFilled 171 = .ok (.aload_n 0, 1) := by decide +kernel
theorem dX9_isFilled_172 : decode cX9_isFilled 172 = .ok (.getfield 34, 3) := by decide +kernel
theorem dX9_isFilled_175 : decode cX9_isFilled 175 = .ok (.iload 6, 2) := by decide +kernel
theorem dX9_isFilled_177 : decode cX9_isFilled 177 = .ok (.bipush 60, 2) := by decide +kernel
theorem dX9_isFilled_179 : decode cX9_isFilled 179 = .ok (.isub, 1) := by decide +kernel
theorem dX9_isFilled_180 : decode cX9_isFilled 180 = .ok (.iload 7, 2) := by decide +kernel
theorem dX9_isFilled_182 : decode cX9_isFilled 182 = .ok (.iastore, 1) := by decide +kernel
theorem dX9_isFilled_183 : decode cX9_isFilled 183 = .ok (.iinc 3 1, 3) := by decide +kernel
theorem dX9_isFilled_186 : decode cX9_isFilled 186 = .ok (.iinc 5 1, 3) := by decide +kernel
theorem dX9_isFilled_189 : decode cX9_isFilled 189 = .ok (.goto (-161), 3) := by decide +kernel
theorem dX9_isFilled_192 : decode cX9_isFilled 192 = .ok (.iconst 1, 1) := by decide +kernel
theorem dX9_isFilled_193 : decode cX9_isFilled 193 = .ok (.ireturn, 1) := by decide +kernel
theorem dX9_fills_0 : decode cX9_fills 0 = .ok (.aload_n 0, 1) := by decide +kernel
theorem dX9_fills_1 : decode cX9_fills 1 = .ok (.iload_n 1, 1) := by decide +kernel
theorem dX9_fills_2 : decode cX9_fills 2 = .ok (.bipush 64, 2) := by decide +kernel
theorem dX9_fills_4 : decode cX9_fills 4 = .ok (.bipush 64, 2) := by decide +kernel
theorem dX9_fills_6 : decode cX9_fills 6 = .ok (.invokevirtual 133, 3) := by decide +kernel
theorem dX9_fills_9 : decode cX9_fills 9 = .ok (.istore_n 3, 1) := by decide +kernel
theorem dX9_fills_10 : decode cX9_fills 10 = .ok (.aload_n 0, 1) := by decide +kernel
theorem dX9_fills_11 : decode cX9_fills 11 = .ok (.getfield 7, 3) := by decide +kernel
theorem dX9_fills_14 : decode cX9_fills 14 = .ok (.iconst 1, 1) := by decide +kernel
theorem dX9_fills_15 : decode cX9_fills 15 = .ok (.iload_n 2, 1) := by decide +kernel
theorem dX9_fills_16 : decode cX9_fills 16 = .ok (.iadd, 1) := by decide +kernel
theorem dX9_fills_17 : decode cX9_fills 17 = .ok (.iaload, 1) := by decide +kernel
theorem dX9_fills_18 : decode cX9_fills 18 = .ok (.aload_n 0, 1) := by decide +kernel
theorem dX9_fills_19 : decode cX9_fills 19 = .ok (.getfield 7, 3) := by decide +kernel
theorem dX9_fills_22 : decode cX9_fills 22 = .ok (.sipush 134, 3) := by decide +kernel
theorem dX9_fills_25 : decode cX9_fills 25 = .ok (.iload_n 1, 1) := by decide +kernel
theorem dX9_fills_26 : decode cX9_fills 26 = .ok (.iadd, 1) := by decide +kernel
theorem dX9_fills_27 : decode cX9_fills 27 = .ok (.iaload, 1) := by decide +kernel
theorem dX9_fills_28 : decode cX9_fills 28 = .ok (.iload_n 3, 1) := by decide +kernel
theorem dX9_fills_29 : decode cX9_fills 29 = .ok (.isub, 1) := by decide +kernel
theorem dX9_fills_30 : decode cX9_fills 30 = .ok (.isub, 1) := by decide +kernel
theorem dX9_fills_31 : decode cX9_fills 31 = .ok (.istore 4, 2) := by decide +kernel
theorem dX9_fills_33 : decode cX9_fills 33 = .ok (.iload 4, 2) := by decide +kernel
theorem dX9_fills_35 : decode cX9_fills 35 = .ok (.ifCond .lt 12, 3) := by decide +kernel
theorem dX9_fills_38 : decode cX9_fills 38 = .ok (.iload_n 3, 1) := by decide +kernel
theorem dX9_fills_39 : decode cX9_fills 39 = .ok (.ifCond .ne 10, 3) := by decide +kernel
theorem dX9_fills_42 : decode cX9_fills 42 = .ok (.iload 4, 2) := by decide +kernel
theorem dX9_fills_44 : decode cX9_fills 44 = .ok (.ifCond .le 5, 3) := by decide +kernel
theorem dX9_fills_47 : decode cX9_fills 47 = .ok (.iconst 0, 1) := by decide +kernel
theorem dX9_fills_48 : decode cX9_fills 48 = .ok (.ireturn, 1) := by decide +kernel
theorem dX9_fills_49 : decode cX9_fills 49 = .ok (.iconst 0, 1) := by decide +kernel
theorem dX9_fills_50 : decode cX9_fills 50 = .ok (.istore 5, 2) := by decide +kernel
theorem dX9_fills_52 : decode cX9_fills 52 = .ok (.iload 5, 2) := by decide +kernel
theorem dX9_fills_54 : decode cX9_fills 54 = .ok (.bipush 8, 2) := by decide +kernel
theorem dX9_fills_56 : decode cX9_fills 56 = .ok (.if_icmp .ge 17, 3) := by decide +kernel
theorem dX9_fills_59 : decode cX9_fills 59 = .ok (.aload_n 0, 1) := by decide +kernel
theorem dX9_fills_60 : decode cX9_fills 60 = .ok (.getfield 31, 3) := by decide +kernel
theorem dX9_fills_63 : decode cX9_fills 63 = .ok (.iload 5, 2) := by decide +kernel
theorem dX9_fills_65 : decode cX9_fills 65 = .ok (.iconst 0, 1) := by decide +kernel
theorem dX9_fills_66 : decode cX9_fills 66 = .ok (.iastore, 1) := by decide +kernel
theorem dX9_fills_67 : decode cX9_fills 67 = .ok (.iinc 5 1, 3) := by decide +kernel
theorem dX9_fills_70 : decode cX9_fills 70 = .ok (.goto (-18), 3) := by decide +kernel
theorem dX9_fills_73 : decode cX9_fills 73 = .ok (.iload_n 3, 1) := by decide +kernel
theorem dX9_fills_74 : decode cX9_fills 74 = .ok (.ifCond .le 13, 3) := by decide +kernel
theorem dX9_fills_77 : decode cX9_fills 77 = .ok (.aload_n 0, 1) := by decide +kernel
theorem dX9_fills_78 : decode cX9_fills 78 = .ok (.getfield 31, 3) := by decide +kernel
theorem dX9_fills_81 : decode cX9_fills 81 = .ok (.iload_n 3, 1) := by decide +kernel
theorem dX9_fills_82 : decode cX9_fills 82 = .ok (.iconst 1, 1) := by decide +kernel
theorem dX9_fills_83 : decode cX9_fills 83 = .ok (.isub, 1) := by decide +kernel
theorem dX9_fills_84 : decode cX9_fills 84 = .ok (.iload 4, 2) := by decide +kernel
theorem dX9_fills_86 : decode cX9_fills 86 = .ok (.iastore, 1) := by decide +kernel
theorem dX9_fills_87 : decode cX9_fills 87 = .ok (.iconst 0, 1) := by decide +kernel
theorem dX9_fills_88 : decode cX9_fills 88 = .ok (.istore 5, 2) := by decide +kernel
theorem dX9_fills_90 : decode cX9_fills 90 = .ok (.iconst 1, 1) := by decide +kernel
theorem dX9_fills_91 : decode cX9_fills 91 = .ok (.istore 6, 2) := by decide +kernel
theorem dX9_fills_93 : decode cX9_fills 93 = .ok (.iload 6, 2) := by decide +kernel
theorem dX9_fills_95 : decode cX9_fills 95 = .ok (.ifCond .eq 59, 3) := by decide +kernel
theorem dX9_fills_98 : decode cX9_fills 98 = .ok (.aload_n 0, 1) := by decide +kernel
theorem dX9_fills_99 : decode cX9_fills 99 = .ok (.iload_n 1, 1) := by decide +kernel
theorem dX9_fills_100 : decode cX9_fills 100 = .ok (.iload_n 2, 1) := by decide +kernel
theorem dX9_fills_101 : decode cX9_fills 101 = .ok (.invokevirtual 136, 3) := by decide +kernel
theorem dX9_fills_104 : decode cX9_fills 104 = .ok (.ifCond .eq 40, 3) := by decide +kernel
theorem dX9_fills_107 : decode cX9_fills 107 = .ok (.iconst 0, 1) := by decide +kernel
theorem dX9_fills_108 : decode cX9_fills 108 = .ok (.istore 7, 2) := by decide +kernel
theorem dX9_fills_110 : decode cX9_fills 110 = .ok (.iload 7, 2) := by decide +kernel
theorem dX9_fills_112 : decode cX9_fills 112 = .ok (.iconst 4, 1) := by decide +kernel
theorem dX9_fills_113 : decode cX9_fills 113 = .ok (.if_icmp .ge 28, 3) := by decide +kernel
theorem dX9_fills_116 : decode cX9_fills 116 = .ok (.iload 5, 2) := by decide +kernel
theorem dX9_fills_118 : decode cX9_fills 118 = .ok (.ifCond .ne 23, 3) := by decide +kernel
theorem dX9_fills_121 : decode cX9_fills 121 = .ok (.aload_n 0, 1) := by decide +kernel
theorem dX9_fills_122 : decode cX9_fills 122 = .ok (.getfield 37, 3) := by decide +kernel
theorem dX9_fills_125 : decode cX9_fills 125 = .ok (.iload 7, 2) := by decide +kernel
theorem dX9_fills_127 : decode cX9_fills 127 = .ok (.aload_n 0, 1) := by decide +kernel
theorem dX9_fills_128 : decode cX9_fills 128 = .ok (.getfield 34, 3) := by decide +kernel
theorem dX9_fills_131 : decode cX9_fills 131 = .ok (.iload 7, 2) := by decide +kernel
theorem dX9_fills_133 : decode cX9_fills 133 = .ok (.iaload, 1) := by decide +kernel
theorem dX9_fills_134 : decode cX9_fills 134 = .ok (.iastore, 1) := by decide +kernel
theorem dX9_fills_135 : decode cX9_fills 135 = .ok (.iinc 7 1, 3) := by decide +kernel
theorem dX9_fills_138 : decode cX9_fills 138 = .ok (.goto (-28), 3) := by decide +kernel
theorem dX9_fills_141 : decode cX9_fills 141 = .ok (.iinc 5 1, 3) := by decide +kernel
theorem dX9_fills_144 : decode cX9_fills 144 = .ok (.aload_n 0, 1) := by decide +kernel
theorem dX9_fills_145 : decode cX9_fills 145 = .ok (.iload_n 3, 1) := by decide +kernel
theorem dX9_fills_146 : decode cX9_fills 146 = .ok (.invokevirtual 139, 3) := by decide +kernel
theorem dX9_fills_149 : decode cX9_fills 149 = .ok (.istore 6, 2) := by decide +kernel
theorem dX9_fills_151 : decode cX9_fills 151 = .ok (.goto (-58), 3) := by decide +kernel
theorem dX9_fills_154 : decode cX9_fills 154 = .ok (.iload 5, 2) := by decide +kernel
theorem dX9_fills_156 : decode cX9_fills 156 = .ok (.ireturn, 1) := by decide +kernel
theorem dX9_goesOn_0 : decode cX9_goesOn 0 = .ok (.iload_n 1, 1) := by decide +kernel
theorem dX9_goesOn_1 : decode cX9_goesOn 1 = .ok (.iconst 2, 1) := by decide +kernel
theorem dX9_goesOn_2 : decode cX9_goesOn 2 = .ok (.if_icmp .ge 5, 3) := by decide +kernel
theorem dX9_goesOn_5 : decode cX9_goesOn 5 = .ok (.iconst 0, 1) := by decide +kernel
theorem dX9_goesOn_6 : decode cX9_goesOn 6 = .ok (.ireturn, 1) := by decide +kernel
theorem dX9_goesOn_7 : decode cX9_goesOn 7 = .ok (.iload_n 1, 1) := by decide +kernel
theorem dX9_goesOn_8 : decode cX9_goesOn 8 = .ok (.iconst 1, 1) := by decide +kernel
theorem dX9_goesOn_9 : decode cX9_goesOn 9 = .ok (.isub, 1) := by decide +kernel
theorem dX9_goesOn_10 : decode cX9_goesOn 10 = .ok (.istore_n 2, 1) := by decide +kernel
theorem dX9_goesOn_11 : decode cX9_goesOn 11 = .ok (.iload_n 2, 1) := by decide +kernel
theorem dX9_goesOn_12 : decode cX9_goesOn 12 = .ok (.istore_n 3, 1) := by decide +kernel
theorem dX9_goesOn_13 : decode cX9_goesOn 13 = .ok (.iload_n 3, 1) := by decide +kernel
theorem dX9_goesOn_14 : decode cX9_goesOn 14 = .ok (.ifCond .le 18, 3) := by decide +kernel
theorem dX9_goesOn_17 : decode cX9_goesOn 17 = .ok (.aload_n 0, 1) := by decide +kernel
theorem dX9_goesOn_18 : decode cX9_goesOn 18 = .ok (.getfield 31, 3) := by decide +kernel
theorem dX9_goesOn_21 : decode cX9_goesOn 21 = .ok (.iload_n 3, 1) := by decide +kernel
theorem dX9_goesOn_22 : decode cX9_goesOn 22 = .ok (.iaload, 1) := by decide +kernel
theorem dX9_goesOn_23 : decode cX9_goesOn 23 = .ok (.ifCond .ne 9, 3) := by decide +kernel
theorem dX9_goesOn_26 : decode cX9_goesOn 26 = .ok (.iinc 3 (-1), 3) := by decide +kernel
theorem dX9_goesOn_29 : decode cX9_goesOn 29 = .ok (.goto (-16), 3) := by decide +kernel
theorem dX9_goesOn_32 : decode cX9_goesOn 32 = .ok (.iload_n 3, 1) := by decide +kernel
theorem dX9_goesOn_33 : decode cX9_goesOn 33 = .ok (.ifCond .ne 5, 3) := by decide +kernel
theorem dX9_goesOn_36 : decode cX9_goesOn 36 = .ok (.iconst 0, 1) := by decide +kernel
theorem dX9_goesOn_37 : decode cX9_goesOn 37 = .ok (.ireturn, 1) := by decide +kernel
theorem dX9_goesOn_38 : decode cX9_goesOn 38 = .ok (.aload_n 0, 1) := by decide +kernel
theorem dX9_goesOn_39 : decode cX9_goesOn 39 = .ok (.getfield 31, 3) := by decide +kernel
theorem dX9_goesOn_42 : decode cX9_goesOn 42 = .ok (.iload_n 3, 1) := by decide +kernel
theorem dX9_goesOn_43 : decode cX9_goesOn 43 = .ok (.iaload, 1) := by decide +kernel
theorem dX9_goesOn_44 : decode cX9_goesOn 44 = .ok (.istore 4, 2) := by decide +kernel
theorem dX9_goesOn_46 : decode cX9_goesOn 46 = .ok (.aload_n 0, 1) := by decide +kernel
theorem dX9_goesOn_47 : decode cX9_goesOn 47 = .ok (.getfield 31, 3) := by decide +kernel
theorem dX9_goesOn_50 : decode cX9_goesOn 50 = .ok (.iload_n 3, 1) := by decide +kernel
theorem dX9_goesOn_51 : decode cX9_goesOn 51 = .ok (.iconst 0, 1) := by decide +kernel
theorem dX9_goesOn_52 : decode cX9_goesOn 52 = .ok (.iastore, 1) := by decide +kernel
theorem dX9_goesOn_53 : decode cX9_goesOn 53 = .ok (.aload_n 0, 1) := by decide +kernel
theorem dX9_goesOn_54 : decode cX9_goesOn 54 = .ok (.getfield 31, 3) := by decide +kernel
theorem dX9_goesOn_57 : decode cX9_goesOn 57 = .ok (.iload_n 3, 1) := by decide +kernel
theorem dX9_goesOn_58 : decode cX9_goesOn 58 = .ok (.iconst 1, 1) := by decide +kernel
theorem dX9_goesOn_59 : decode cX9_goesOn 59 = .ok (.isub, 1) := by decide +kernel
theorem dX9_goesOn_60 : decode cX9_goesOn 60 = .ok (.dup2, 1) := by decide +kernel
theorem dX9_goesOn_61 : decode cX9_goesOn 61 = .ok (.iaload, 1) := by decide +kernel
theorem dX9_goesOn_62 : decode cX9_goesOn 62 = .ok (.iconst 1, 1) := by decide +kernel
theorem dX9_goesOn_63 : decode cX9_goesOn 63 = .ok (.iadd, 1) := by decide +kernel
theorem dX9_goesOn_64 : decode cX9_goesOn 64 = .ok (.iastore, 1) := by decide +kernel
theorem dX9_goesOn_65 : decode cX9_goesOn 65 = .ok (.aload_n 0, 1) := by decide +kernel
theorem dX9_goesOn_66 : decode cX9_goesOn 66 = .ok (.getfield 31, 3) := by decide +kernel
theorem dX9_goesOn_69 : decode cX9_goesOn 69 = .ok (.iload_n 2, 1) := by decide +kernel
theorem dX9_goesOn_70 : decode cX9_goesOn 70 = .ok (.iload 4, 2) := by decide +kernel
theorem dX9_goesOn_72 : decode cX9_goesOn 72 = .ok (.iconst 1, 1) := by decide +kernel
theorem dX9_goesOn_73 : decode cX9_goesOn 73 = .ok (.isub, 1) := by decide +kernel
theorem dX9_goesOn_74 : decode cX9_goesOn 74 = .ok (.iastore, 1) := by decide +kernel
theorem dX9_goesOn_75 : decode cX9_goesOn 75 = .ok (.iconst 1, 1) := by decide +kernel
theorem dX9_goesOn_76 : decode cX9_goesOn 76 = .ok (.ireturn, 1) := by decide +kernel
theorem dX9_fillings_0 : decode cX9_fillings 0 = .ok (.aload_n 0, 1) := by decide +kernel
theorem dX9_fillings_1 : decode cX9_fillings 1 = .ok (.iload_n 1, 1) := by decide +kernel
theorem dX9_fillings_2 : decode cX9_fillings 2 = .ok (.invokevirtual 130, 3) := by decide +kernel
theorem dX9_fillings_5 : decode cX9_fillings 5 = .ok (.ifCond .eq 20, 3) := by decide +kernel
theorem dX9_fillings_8 : decode cX9_fillings 8 = .ok (.aload_n 0, 1) := by decide +kernel
theorem dX9_fillings_9 : decode cX9_fillings 9 = .ok (.iload_n 2, 1) := by decide +kernel
theorem dX9_fillings_10 : decode cX9_fillings 10 = .ok (.invokevirtual 68, 3) := by decide +kernel
theorem dX9_fillings_13 : decode cX9_fillings 13 = .ok (.ifCond .eq 12, 3) := by decide +kernel
theorem dX9_fillings_16 : decode cX9_fillings 16 = .ok (.aload_n 0, 1) := by decide +kernel
theorem dX9_fillings_17 : decode cX9_fillings 17 = .ok (.iload_n 1, 1) := by decide +kernel
theorem dX9_fillings_18 : decode cX9_fillings 18 = .ok (.iload_n 2, 1) := by decide +kernel
theorem dX9_fillings_19 : decode cX9_fillings 19 = .ok (.invokevirtual 142, 3) := by decide +kernel
theorem dX9_fillings_22 : decode cX9_fillings 22 = .ok (.goto 4, 3) := by decide +kernel
theorem dX9_fillings_25 : decode cX9_fillings 25 = .ok (.iconst (-1), 1) := by decide +kernel
theorem dX9_fillings_26 : decode cX9_fillings 26 = .ok (.ireturn, 1) := by decide +kernel
theorem dX9_slotWord_0 : decode cX9_slotWord 0 = .ok (.aload_n 0, 1) := by decide +kernel
theorem dX9_slotWord_1 : decode cX9_slotWord 1 = .ok (.iload_n 1, 1) := by decide +kernel
theorem dX9_slotWord_2 : decode cX9_slotWord 2 = .ok (.invokevirtual 130, 3) := by decide +kernel
theorem dX9_slotWord_5 : decode cX9_slotWord 5 = .ok (.ifCond .eq 23, 3) := by decide +kernel
theorem dX9_slotWord_8 : decode cX9_slotWord 8 = .ok (.aload_n 0, 1) := by decide +kernel
theorem dX9_slotWord_9 : decode cX9_slotWord 9 = .ok (.iload_n 2, 1) := by decide +kernel
theorem dX9_slotWord_10 : decode cX9_slotWord 10 = .ok (.invokevirtual 68, 3) := by decide +kernel
theorem dX9_slotWord_13 : decode cX9_slotWord 13 = .ok (.ifCond .eq 15, 3) := by decide +kernel
theorem dX9_slotWord_16 : decode cX9_slotWord 16 = .ok (.iload_n 3, 1) := by decide +kernel
theorem dX9_slotWord_17 : decode cX9_slotWord 17 = .ok (.i2l, 1) := by decide +kernel
theorem dX9_slotWord_18 : decode cX9_slotWord 18 = .ok (.lconst 0, 1) := by decide +kernel
theorem dX9_slotWord_19 : decode cX9_slotWord 19 = .ok (.ldc2_w 112, 3) := by decide +kernel
theorem dX9_slotWord_22 : decode cX9_slotWord 22 = .ok (.invokestatic 50, 3) := by decide +kernel
theorem dX9_slotWord_25 : decode cX9_slotWord 25 = .ok (.ifCond .ne 5, 3) := by decide +kernel
theorem dX9_slotWord_28 : decode cX9_slotWord 28 = .ok (.iconst (-1), 1) := by decide +kernel
theorem dX9_slotWord_29 : decode cX9_slotWord 29 = .ok (.ireturn, 1) := by decide +kernel
theorem dX9_slotWord_30 : decode cX9_slotWord 30 = .ok (.aload_n 0, 1) := by decide +kernel
theorem dX9_slotWord_31 : decode cX9_slotWord 31 = .ok (.iload_n 1, 1) := by decide +kernel
theorem dX9_slotWord_32 : decode cX9_slotWord 32 = .ok (.iload_n 2, 1) := by decide +kernel
theorem dX9_slotWord_33 : decode cX9_slotWord 33 = .ok (.invokevirtual 142, 3) := by decide +kernel
theorem dX9_slotWord_36 : decode cX9_slotWord 36 = .ok (.ifCond .le 23, 3) := by decide +kernel
theorem dX9_slotWord_39 : decode cX9_slotWord 39 = .ok (.aload_n 0, 1) := by decide +kernel
theorem dX9_slotWord_40 : decode cX9_slotWord 40 = .ok (.iload_n 1, 1) := by decide +kernel
theorem dX9_slotWord_41 : decode cX9_slotWord 41 = .ok (.bipush 60, 2) := by decide +kernel
theorem dX9_slotWord_43 : decode cX9_slotWord 43 = .ok (.iload_n 3, 1) := by decide +kernel
theorem dX9_slotWord_44 : decode cX9_slotWord 44 = .ok (.iadd, 1) := by decide +kernel
theorem dX9_slotWord_45 : decode cX9_slotWord 45 = .ok (.bipush 60, 2) := by decide +kernel
theorem dX9_slotWord_47 : decode cX9_slotWord 47 = .ok (.iload_n 3, 1) := by decide +kernel
theorem dX9_slotWord_48 : decode cX9_slotWord 48 = .ok (.iadd, 1) := by decide +kernel
theorem dX9_slotWord_49 : decode cX9_slotWord 49 = .ok (.invokevirtual 133, 3) := by decide +kernel
theorem dX9_slotWord_52 : decode cX9_slotWord 52 = .ok (.ifCond .le 7, 3) := by decide +kernel
theorem dX9_slotWord_55 : decode cX9_slotWord 55 = .ok (.iconst 1, 1) := by decide +kernel
theorem dX9_slotWord_56 : decode cX9_slotWord 56 = .ok (.goto 4, 3) := by decide +kernel
theorem dX9_slotWord_59 : decode cX9_slotWord 59 = .ok (.iconst 0, 1) := by decide +kernel
theorem dX9_slotWord_60 : decode cX9_slotWord 60 = .ok (.istore 4, 2) := by decide +kernel
theorem dX9_slotWord_62 : decode cX9_slotWord 62 = .ok (.iload 4, 2) := by decide +kernel
theorem dX9_slotWord_64 : decode cX9_slotWord 64 = .ok (.ifCond .eq 12, 3) := by decide +kernel
theorem dX9_slotWord_67 : decode cX9_slotWord 67 = .ok (.aload_n 0, 1) := by decide +kernel
theorem dX9_slotWord_68 : decode cX9_slotWord 68 = .ok (.getfield 37, 3) := by decide +kernel
theorem dX9_slotWord_71 : decode cX9_slotWord 71 = .ok (.iload_n 3, 1) := by decide +kernel
theorem dX9_slotWord_72 : decode cX9_slotWord 72 = .ok (.iaload, 1) := by decide +kernel
theorem dX9_slotWord_73 : decode cX9_slotWord 73 = .ok (.goto 5, 3) := by decide +kernel
theorem dX9_slotWord_76 : decode cX9_slotWord 76 = .ok (.bipush (-4), 2) := by decide +kernel
theorem dX9_slotWord_78 : decode cX9_slotWord 78 = .ok (.ireturn, 1) := by decide +kernel
theorem dX9_matchedSayings_0 : decode cX9_matchedSayings 0 = .ok (.aload_n 0, 1) := by decide +kernel
theorem dX9_matchedSayings_1 : decode cX9_matchedSayings 1 = .ok (.iload_n 1, 1) := by decide +kernel
theorem dX9_matchedSayings_2 : decode cX9_matchedSayings 2 = .ok (.invokevirtual 130, 3) := by decide +kernel
theorem dX9_matchedSayings_5 : decode cX9_matchedSayings 5 = .ok (.ifCond .ne 5, 3) := by decide +kernel
theorem dX9_matchedSayings_8 : decode cX9_matchedSayings 8 = .ok (.iconst (-1), 1) := by decide +kernel
theorem dX9_matchedSayings_9 : decode cX9_matchedSayings 9 = .ok (.ireturn, 1) := by decide +kernel
theorem dX9_matchedSayings_10 : decode cX9_matchedSayings 10 = .ok (.iconst 0, 1) := by decide +kernel
theorem dX9_matchedSayings_11 : decode cX9_matchedSayings 11 = .ok (.istore_n 2, 1) := by decide +kernel
theorem dX9_matchedSayings_12 : decode cX9_matchedSayings 12 = .ok (.iconst 0, 1) := by decide +kernel
theorem dX9_matchedSayings_13 : decode cX9_matchedSayings 13 = .ok (.istore_n 3, 1) := by decide +kernel
theorem dX9_matchedSayings_14 : decode cX9_matchedSayings 14 = .ok (.iload_n 3, 1) := by decide +kernel
theorem dX9_matchedSayings_15 : decode cX9_matchedSayings 15 = .ok (.aload_n 0, 1) := by decide +kernel
theorem dX9_matchedSayings_16 : decode cX9_matchedSayings 16 = .ok (.getfield 7, 3) := by decide +kernel
theorem dX9_matchedSayings_19 : decode cX9_matchedSayings 19 = .ok (.iconst 0, 1) := by decide +kernel
theorem dX9_matchedSayings_20 : decode cX9_matchedSayings 20 = .ok (.iaload, 1) := by decide +kernel
theorem dX9_matchedSayings_21 : decode cX9_matchedSayings 21 = .ok (.if_icmp .ge 28, 3) := by decide +kernel
theorem dX9_matchedSayings_24 : decode cX9_matchedSayings 24 = .ok (.iload_n 2, 1) := by decide +kernel
theorem dX9_matchedSayings_25 : decode cX9_matchedSayings 25 = .ok (.aload_n 0, 1) := by decide +kernel
theorem dX9_matchedSayings_26 : decode cX9_matchedSayings 26 = .ok (.iload_n 1, 1) := by decide +kernel
theorem dX9_matchedSayings_27 : decode cX9_matchedSayings 27 = .ok (.iload_n 3, 1) := by decide +kernel
theorem dX9_matchedSayings_28 : decode cX9_matchedSayings 28 = .ok (.invokevirtual 142, 3) := by decide +kernel
theorem dX9_matchedSayings_31 : decode cX9_matchedSayings 31 = .ok (.ifCond .le 9, 3) := by decide +kernel
theorem dX9_matchedSayings_34 : decode cX9_matchedSayings 34 = .ok (.iconst 1, 1) := by decide +kernel
theorem dX9_matchedSayings_35 : decode cX9_matchedSayings 35 = .ok (.iload_n 3, 1) := by decide +kernel
theorem dX9_matchedSayings_36 : decode cX9_matchedSayings 36 = .ok (.ishl, 1) := by decide +kernel
theorem dX9_matchedSayings_37 : decode cX9_matchedSayings 37 = .ok (.goto 4, 3) := by decide +kernel
theorem dX9_matchedSayings_40 : decode cX9_matchedSayings 40 = .ok (.iconst 0, 1) := by decide +kernel
theorem dX9_matchedSayings_41 : decode cX9_matchedSayings 41 = .ok (.ior, 1) := by decide +kernel
theorem dX9_matchedSayings_42 : decode cX9_matchedSayings 42 = .ok (.istore_n 2, 1) := by decide +kernel
theorem dX9_matchedSayings_43 : decode cX9_matchedSayings 43 = .ok (.iinc 3 1, 3) := by decide +kernel
theorem dX9_matchedSayings_46 : decode cX9_matchedSayings 46 = .ok (.goto (-32), 3) := by decide +kernel
theorem dX9_matchedSayings_49 : decode cX9_matchedSayings 49 = .ok (.iload_n 2, 1) := by decide +kernel
theorem dX9_matchedSayings_50 : decode cX9_matchedSayings 50 = .ok (.ireturn, 1) := by decide +kernel
theorem dX9_bestPattern_0 : decode cX9_bestPattern 0 = .ok (.aload_n 0, 1) := by decide +kernel
theorem dX9_bestPattern_1 : decode cX9_bestPattern 1 = .ok (.iload_n 1, 1) := by decide +kernel
theorem dX9_bestPattern_2 : decode cX9_bestPattern 2 = .ok (.invokevirtual 68, 3) := by decide +kernel
theorem dX9_bestPattern_5 : decode cX9_bestPattern 5 = .ok (.ifCond .ne 5, 3) := by decide +kernel
theorem dX9_bestPattern_8 : decode cX9_bestPattern 8 = .ok (.iconst (-1), 1) := by decide +kernel
theorem dX9_bestPattern_9 : decode cX9_bestPattern 9 = .ok (.ireturn, 1) := by decide +kernel
theorem dX9_bestPattern_10 : decode cX9_bestPattern 10 = .ok (.bipush (-4), 2) := by decide +kernel
theorem dX9_bestPattern_12 : decode cX9_bestPattern 12 = .ok (.istore_n 2, 1) := by decide +kernel
theorem dX9_bestPattern_13 : decode cX9_bestPattern 13 = .ok (.iconst (-1), 1) := by decide +kernel
theorem dX9_bestPattern_14 : decode cX9_bestPattern 14 = .ok (.istore_n 3, 1) := by decide +kernel
theorem dX9_bestPattern_15 : decode cX9_bestPattern 15 = .ok (.iconst 0, 1) := by decide +kernel
theorem dX9_bestPattern_16 : decode cX9_bestPattern 16 = .ok (.istore 4, 2) := by decide +kernel
theorem dX9_bestPattern_18 : decode cX9_bestPattern 18 = .ok (.iload 4, 2) := by decide +kernel
theorem dX9_bestPattern_20 : decode cX9_bestPattern 20 = .ok (.aload_n 0, 1) := by decide +kernel
theorem dX9_bestPattern_21 : decode cX9_bestPattern 21 = .ok (.getfield 7, 3) := by decide +kernel
theorem dX9_bestPattern_24 : decode cX9_bestPattern 24 = .ok (.sipush 133, 3) := by decide +kernel
theorem dX9_bestPattern_27 : decode cX9_bestPattern 27 = .ok (.iaload, 1) := by decide +kernel
theorem dX9_bestPattern_28 : decode cX9_bestPattern 28 = .ok (.if_icmp .ge 59, 3) := by decide +kernel
theorem dX9_bestPattern_31 : decode cX9_bestPattern 31 = .ok (.bipush 10, 2) := by decide +kernel
theorem dX9_bestPattern_33 : decode cX9_bestPattern 33 = .ok (.aload_n 0, 1) := by decide +kernel
theorem dX9_bestPattern_34 : decode cX9_bestPattern 34 = .ok (.iload 4, 2) := by decide +kernel
theorem dX9_bestPattern_36 : decode cX9_bestPattern 36 = .ok (.iconst 0, 1) := by decide +kernel
theorem dX9_bestPattern_37 : decode cX9_bestPattern 37 = .ok (.bipush 59, 2) := by decide +kernel
theorem dX9_bestPattern_39 : decode cX9_bestPattern 39 = .ok (.invokevirtual 133, 3) := by decide +kernel
theorem dX9_bestPattern_42 : decode cX9_bestPattern 42 = .ok (.imul, 1) := by decide +kernel
theorem dX9_bestPattern_43 : decode cX9_bestPattern 43 = .ok (.bipush 8, 2) := by decide +kernel
theorem dX9_bestPattern_45 : decode cX9_bestPattern 45 = .ok (.iadd, 1) := by decide +kernel
theorem dX9_bestPattern_46 : decode cX9_bestPattern 46 = .ok (.aload_n 0, 1) := by decide +kernel
theorem dX9_bestPattern_47 : decode cX9_bestPattern 47 = .ok (.iload 4, 2) := by decide +kernel
theorem dX9_bestPattern_49 : decode cX9_bestPattern 49 = .ok (.bipush 64, 2) := by decide +kernel
theorem dX9_bestPattern_51 : decode cX9_bestPattern 51 = .ok (.bipush 64, 2) := by decide +kernel
theorem dX9_bestPattern_53 : decode cX9_bestPattern 53 = .ok (.invokevirtual 133, 3) := by decide +kernel
theorem dX9_bestPattern_56 : decode cX9_bestPattern 56 = .ok (.isub, 1) := by decide +kernel
theorem dX9_bestPattern_57 : decode cX9_bestPattern 57 = .ok (.istore 5, 2) := by decide +kernel
theorem dX9_bestPattern_59 : decode cX9_bestPattern 59 = .ok (.aload_n 0, 1) := by decide +kernel
theorem dX9_bestPattern_60 : decode cX9_bestPattern 60 = .ok (.iload 4, 2) := by decide +kernel
theorem dX9_bestPattern_62 : decode cX9_bestPattern 62 = .ok (.iload_n 1, 1) := by decide +kernel
theorem dX9_bestPattern_63 : decode cX9_bestPattern 63 = .ok (.invokevirtual 142, 3) := by decide +kernel
theorem dX9_bestPattern_66 : decode cX9_bestPattern 66 = .ok (.ifCond .le 15, 3) := by decide +kernel
theorem dX9_bestPattern_69 : decode cX9_bestPattern 69 = .ok (.iload 5, 2) := by decide +kernel
theorem dX9_bestPattern_71 : decode cX9_bestPattern 71 = .ok (.iload_n 3, 1) := by decide +kernel
theorem dX9_bestPattern_72 : decode cX9_bestPattern 72 = .ok (.if_icmp .le 9, 3) := by decide +kernel
theorem dX9_bestPattern_75 : decode cX9_bestPattern 75 = .ok (.iload 4, 2) := by decide +kernel
theorem dX9_bestPattern_77 : decode cX9_bestPattern 77 = .ok (.istore_n 2, 1) := by decide +kernel
theorem dX9_bestPattern_78 : decode cX9_bestPattern 78 = .ok (.iload 5, 2) := by decide +kernel
theorem dX9_bestPattern_80 : decode cX9_bestPattern 80 = .ok (.istore_n 3, 1) := by decide +kernel
theorem dX9_bestPattern_81 : decode cX9_bestPattern 81 = .ok (.iinc 4 1, 3) := by decide +kernel
theorem dX9_bestPattern_84 : decode cX9_bestPattern 84 = .ok (.goto (-66), 3) := by decide +kernel
theorem dX9_bestPattern_87 : decode cX9_bestPattern 87 = .ok (.iload_n 2, 1) := by decide +kernel
theorem dX9_bestPattern_88 : decode cX9_bestPattern 88 = .ok (.ireturn, 1) := by decide +kernel
theorem dX9_makesGroups_0 : decode cX9_makesGroups 0 = .ok (.aload_n 0, 1) := by decide +kernel
theorem dX9_makesGroups_1 : decode cX9_makesGroups 1 = .ok (.iconst 0, 1) := by decide +kernel
theorem dX9_makesGroups_2 : decode cX9_makesGroups 2 = .ok (.putfield 145, 3) := by decide +kernel
theorem dX9_makesGroups_5 : decode cX9_makesGroups 5 = .ok (.iconst 0, 1) := by decide +kernel
theorem dX9_makesGroups_6 : decode cX9_makesGroups 6 = .ok (.istore_n 1, 1) := by decide +kernel
theorem dX9_makesGroups_7 : decode cX9_makesGroups 7 = .ok (.iload_n 1, 1) := by decide +kernel
theorem dX9_makesGroups_8 : decode cX9_makesGroups 8 = .ok (.bipush 12, 2) := by decide +kernel
theorem dX9_makesGroups_10 : decode cX9_makesGroups 10 = .ok (.if_icmp .ge 16, 3) := by decide +kernel
theorem dX9_makesGroups_13 : decode cX9_makesGroups 13 = .ok (.aload_n 0, 1) := by decide +kernel
theorem dX9_makesGroups_14 : decode cX9_makesGroups 14 = .ok (.getfield 40, 3) := by decide +kernel
theorem dX9_makesGroups_17 : decode cX9_makesGroups 17 = .ok (.iload_n 1, 1) := by decide +kernel
theorem dX9_makesGroups_18 : decode cX9_makesGroups 18 = .ok (.iconst (-1), 1) := by decide +kernel
theorem dX9_makesGroups_19 : decode cX9_makesGroups 19 = .ok (.iastore, 1) := by decide +kernel
theorem dX9_makesGroups_20 : decode cX9_makesGroups 20 = .ok (.iinc 1 1, 3) := by decide +kernel
theorem dX9_makesGroups_23 : decode cX9_makesGroups 23 = .ok (.goto (-16), 3) := by decide +kernel
theorem dX9_makesGroups_26 : decode cX9_makesGroups 26 = .ok (.iconst 0, 1) := by decide +kernel
theorem dX9_makesGroups_27 : decode cX9_makesGroups 27 = .ok (.istore_n 1, 1) := by decide +kernel
theorem dX9_makesGroups_28 : decode cX9_makesGroups 28 = .ok (.iload_n 1, 1) := by decide +kernel
theorem dX9_makesGroups_29 : decode cX9_makesGroups 29 = .ok (.aload_n 0, 1) := by decide +kernel
theorem dX9_makesGroups_30 : decode cX9_makesGroups 30 = .ok (.getfield 7, 3) := by decide +kernel
theorem dX9_makesGroups_33 : decode cX9_makesGroups 33 = .ok (.iconst 0, 1) := by decide +kernel
theorem dX9_makesGroups_34 : decode cX9_makesGroups 34 = .ok (.iaload, 1) := by decide +kernel
theorem dX9_makesGroups_35 : decode cX9_makesGroups 35 = .ok (.if_icmp .ge 120, 3) := by decide +kernel
theorem dX9_makesGroups_38 : decode cX9_makesGroups 38 = .ok (.aload_n 0, 1) := by decide +kernel
theorem dX9_makesGroups_39 : decode cX9_makesGroups 39 = .ok (.iload_n 1, 1) := by decide +kernel
theorem dX9_makesGroups_40 : decode cX9_makesGroups 40 = .ok (.invokevirtual 76, 3) := by decide +kernel
theorem dX9_makesGroups_43 : decode cX9_makesGroups 43 = .ok (.istore_n 2, 1) := by decide +kernel
theorem dX9_makesGroups_44 : decode cX9_makesGroups 44 = .ok (.aload_n 0, 1) := by decide +kernel
theorem dX9_makesGroups_45 : decode cX9_makesGroups 45 = .ok (.getfield 40, 3) := by decide +kernel
theorem dX9_makesGroups_48 : decode cX9_makesGroups 48 = .ok (.iload_n 2, 1) := by decide +kernel
theorem dX9_makesGroups_49 : decode cX9_makesGroups 49 = .ok (.iaload, 1) := by decide +kernel
theorem dX9_makesGroups_50 : decode cX9_makesGroups 50 = .ok (.ifCond .ge 99, 3) := by decide +kernel
theorem dX9_makesGroups_53 : decode cX9_makesGroups 53 = .ok (.aload_n 0, 1) := by decide +kernel
theorem dX9_makesGroups_54 : decode cX9_makesGroups 54 = .ok (.getfield 40, 3) := by decide +kernel
theorem dX9_makesGroups_57 : decode cX9_makesGroups 57 = .ok (.iload_n 2, 1) := by decide +kernel
theorem dX9_makesGroups_58 : decode cX9_makesGroups 58 = .ok (.aload_n 0, 1) := by decide +kernel
theorem dX9_makesGroups_59 : decode cX9_makesGroups 59 = .ok (.getfield 145, 3) := by decide +kernel
theorem dX9_makesGroups_62 : decode cX9_makesGroups 62 = .ok (.iastore, 1) := by decide +kernel
theorem dX9_makesGroups_63 : decode cX9_makesGroups 63 = .ok (.aload_n 0, 1) := by decide +kernel
theorem dX9_makesGroups_64 : decode cX9_makesGroups 64 = .ok (.getfield 43, 3) := by decide +kernel
theorem dX9_makesGroups_67 : decode cX9_makesGroups 67 = .ok (.aload_n 0, 1) := by decide +kernel
theorem dX9_makesGroups_68 : decode cX9_makesGroups 68 = .ok (.getfield 145, 3) := by decide +kernel
theorem dX9_makesGroups_71 : decode cX9_makesGroups 71 = .ok (.iload_n 2, 1) := by decide +kernel
theorem dX9_makesGroups_72 : decode cX9_makesGroups 72 = .ok (.iastore, 1) := by decide +kernel
theorem dX9_makesGroups_73 : decode cX9_makesGroups 73 = .ok (.iload_n 1, 1) := by decide +kernel
theorem dX9_makesGroups_74 : decode cX9_makesGroups 74 = .ok (.iconst 1, 1) := by decide +kernel
theorem dX9_makesGroups_75 : decode cX9_makesGroups 75 = .ok (.iadd, 1) := by decide +kernel
theorem dX9_makesGroups_76 : decode cX9_makesGroups 76 = .ok (.istore_n 3, 1) := by decide +kernel
theorem dX9_makesGroups_77 : decode cX9_makesGroups 77 = .ok (.iload_n 3, 1) := by decide +kernel
theorem dX9_makesGroups_78 : decode cX9_makesGroups 78 = .ok (.aload_n 0, 1) := by decide +kernel
theorem dX9_makesGroups_79 : decode cX9_makesGroups 79 = .ok (.getfield 7, 3) := by decide +kernel
theorem dX9_makesGroups_82 : decode cX9_makesGroups 82 = .ok (.iconst 0, 1) := by decide +kernel
theorem dX9_makesGroups_83 : decode cX9_makesGroups 83 = .ok (.iaload, 1) := by decide +kernel
theorem dX9_makesGroups_84 : decode cX9_makesGroups 84 = .ok (.if_icmp .ge 55, 3) := by decide +kernel
theorem dX9_makesGroups_87 : decode cX9_makesGroups 87 = .ok (.aload_n 0, 1) := by decide +kernel
theorem dX9_makesGroups_88 : decode cX9_makesGroups 88 = .ok (.iload_n 3, 1) := by decide +kernel
theorem dX9_makesGroups_89 : decode cX9_makesGroups 89 = .ok (.invokevirtual 76, 3) := by decide +kernel
theorem dX9_makesGroups_92 : decode cX9_makesGroups 92 = .ok (.istore 4, 2) := by decide +kernel
theorem dX9_makesGroups_94 : decode cX9_makesGroups 94 = .ok (.aload_n 0, 1) := by decide +kernel
theorem dX9_makesGroups_95 : decode cX9_makesGroups 95 = .ok (.getfield 40, 3) := by decide +kernel
theorem dX9_makesGroups_98 : decode cX9_makesGroups 98 = .ok (.iload 4, 2) := by decide +kernel
theorem dX9_makesGroups_100 : decode cX9_makesGroups 100 = .ok (.iaload, 1) := by decide +kernel
theorem dX9_makesGroups_101 : decode cX9_makesGroups 101 = .ok (.ifCond .ge 32, 3) := by decide +kernel
theorem dX9_makesGroups_104 : decode cX9_makesGroups 104 = .ok (.aload_n 0, 1) := by decide +kernel
theorem dX9_makesGroups_105 : decode cX9_makesGroups 105 = .ok (.iload_n 2, 1) := by decide +kernel
theorem dX9_makesGroups_106 : decode cX9_makesGroups 106 = .ok (.iload 4, 2) := by decide +kernel
theorem dX9_makesGroups_108 : decode cX9_makesGroups 108 = .ok (.invokevirtual 114, 3) := by decide +kernel
theorem dX9_makesGroups_111 : decode cX9_makesGroups 111 = .ok (.aload_n 0, 1) := by decide +kernel
theorem dX9_makesGroups_112 : decode cX9_makesGroups 112 = .ok (.getfield 7, 3) := by decide +kernel
theorem dX9_makesGroups_115 : decode cX9_makesGroups 115 = .ok (.sipush 192, 3) := by decide +kernel
theorem dX9_makesGroups_118 : decode cX9_makesGroups 118 = .ok (.iaload, 1) := by decide +kernel
theorem dX9_makesGroups_119 : decode cX9_makesGroups 119 = .ok (.if_icmp .gt 14, 3) := by decide +kernel
theorem dX9_makesGroups_122 : decode cX9_makesGroups 122 = .ok (.aload_n 0, 1) := by decide +kernel
theorem dX9_makesGroups_123 : decode cX9_makesGroups 123 = .ok (.getfield 40, 3) := by decide +kernel
theorem dX9_makesGroups_126 : decode cX9_makesGroups 126 = .ok (.iload 4, 2) := by decide +kernel
theorem dX9_makesGroups_128 : decode cX9_makesGroups 128 = .ok (.aload_n 0, 1) := by decide +kernel
theorem dX9_makesGroups_129 : decode cX9_makesGroups 129 = .ok (.getfield 145, 3) := by decide +kernel
theorem dX9_makesGroups_132 : decode cX9_makesGroups 132 = .ok (.iastore, 1) := by decide +kernel
theorem dX9_makesGroups_133 : decode cX9_makesGroups 133 = .ok (.iinc 3 1, 3) := by decide +kernel
theorem dX9_makesGroups_136 : decode cX9_makesGroups 136 = .ok (.goto (-59), 3) := by decide +kernel
theorem dX9_makesGroups_139 : decode cX9_makesGroups 139 = .ok (.aload_n 0, 1) := by decide +kernel
theorem dX9_makesGroups_140 : decode cX9_makesGroups 140 = .ok (.dup, 1) := by decide +kernel
theorem dX9_makesGroups_141 : decode cX9_makesGroups 141 = .ok (.getfield 145, 3) := by decide +kernel
theorem dX9_makesGroups_144 : decode cX9_makesGroups 144 = .ok (.iconst 1, 1) := by decide +kernel
theorem dX9_makesGroups_145 : decode cX9_makesGroups 145 = .ok (.iadd, 1) := by decide +kernel
theorem dX9_makesGroups_146 : decode cX9_makesGroups 146 = .ok (.putfield 145, 3) := by decide +kernel
theorem dX9_makesGroups_149 : decode cX9_makesGroups 149 = .ok (.iinc 1 1, 3) := by decide +kernel
theorem dX9_makesGroups_152 : decode cX9_makesGroups 152 = .ok (.goto (-124), 3) := by decide +kernel
theorem dX9_makesGroups_155 : decode cX9_makesGroups 155 = .ok (.return_, 1) := by decide +kernel
theorem dX9_setLimit_0 : decode cX9_setLimit 0 = .ok (.iload_n 1, 1) := by decide +kernel
theorem dX9_setLimit_1 : decode cX9_setLimit 1 = .ok (.i2l, 1) := by decide +kernel
theorem dX9_setLimit_2 : decode cX9_setLimit 2 = .ok (.lconst 0, 1) := by decide +kernel
theorem dX9_setLimit_3 : decode cX9_setLimit 3 = .ok (.ldc2_w 148, 3) := by decide +kernel
theorem dX9_setLimit_6 : decode cX9_setLimit 6 = .ok (.invokestatic 50, 3) := by decide +kernel
theorem dX9_setLimit_9 : decode cX9_setLimit 9 = .ok (.ifCond .ne 5, 3) := by decide +kernel
theorem dX9_setLimit_12 : decode cX9_setLimit 12 = .ok (.iconst (-1), 1) := by decide +kernel
theorem dX9_setLimit_13 : decode cX9_setLimit 13 = .ok (.ireturn, 1) := by decide +kernel
theorem dX9_setLimit_14 : decode cX9_setLimit 14 = .ok (.aload_n 0, 1) := by decide +kernel
theorem dX9_setLimit_15 : decode cX9_setLimit 15 = .ok (.invokevirtual 65, 3) := by decide +kernel
theorem dX9_setLimit_18 : decode cX9_setLimit 18 = .ok (.aload_n 0, 1) := by decide +kernel
theorem dX9_setLimit_19 : decode cX9_setLimit 19 = .ok (.getfield 7, 3) := by decide +kernel
theorem dX9_setLimit_22 : decode cX9_setLimit 22 = .ok (.sipush 192, 3) := by decide +kernel
theorem dX9_setLimit_25 : decode cX9_setLimit 25 = .ok (.iaload, 1) := by decide +kernel
theorem dX9_setLimit_26 : decode cX9_setLimit 26 = .ok (.istore_n 2, 1) := by decide +kernel
theorem dX9_setLimit_27 : decode cX9_setLimit 27 = .ok (.aload_n 0, 1) := by decide +kernel
theorem dX9_setLimit_28 : decode cX9_setLimit 28 = .ok (.getfield 7, 3) := by decide +kernel
theorem dX9_setLimit_31 : decode cX9_setLimit 31 = .ok (.sipush 192, 3) := by decide +kernel
theorem dX9_setLimit_34 : decode cX9_setLimit 34 = .ok (.iload_n 1, 1) := by decide +kernel
theorem dX9_setLimit_35 : decode cX9_setLimit 35 = .ok (.iastore, 1) := by decide +kernel
theorem dX9_setLimit_36 : decode cX9_setLimit 36 = .ok (.iload_n 2, 1) := by decide +kernel
theorem dX9_setLimit_37 : decode cX9_setLimit 37 = .ok (.ireturn, 1) := by decide +kernel
theorem dX9_groupCount_0 : decode cX9_groupCount 0 = .ok (.aload_n 0, 1) := by decide +kernel
theorem dX9_groupCount_1 : decode cX9_groupCount 1 = .ok (.invokevirtual 150, 3) := by decide +kernel
theorem dX9_groupCount_4 : decode cX9_groupCount 4 = .ok (.aload_n 0, 1) := by decide +kernel
theorem dX9_groupCount_5 : decode cX9_groupCount 5 = .ok (.getfield 145, 3) := by decide +kernel
theorem dX9_groupCount_8 : decode cX9_groupCount 8 = .ok (.ireturn, 1) := by decide +kernel
theorem dX9_groupOf_0 : decode cX9_groupOf 0 = .ok (.aload_n 0, 1) := by decide +kernel
theorem dX9_groupOf_1 : decode cX9_groupOf 1 = .ok (.iload_n 1, 1) := by decide +kernel
theorem dX9_groupOf_2 : decode cX9_groupOf 2 = .ok (.invokevirtual 68, 3) := by decide +kernel
theorem dX9_groupOf_5 : decode cX9_groupOf 5 = .ok (.ifCond .ne 5, 3) := by decide +kernel
theorem dX9_groupOf_8 : decode cX9_groupOf 8 = .ok (.iconst (-1), 1) := by decide +kernel
theorem dX9_groupOf_9 : decode cX9_groupOf 9 = .ok (.ireturn, 1) := by decide +kernel
theorem dX9_groupOf_10 : decode cX9_groupOf 10 = .ok (.aload_n 0, 1) := by decide +kernel
theorem dX9_groupOf_11 : decode cX9_groupOf 11 = .ok (.invokevirtual 150, 3) := by decide +kernel
theorem dX9_groupOf_14 : decode cX9_groupOf 14 = .ok (.aload_n 0, 1) := by decide +kernel
theorem dX9_groupOf_15 : decode cX9_groupOf 15 = .ok (.getfield 40, 3) := by decide +kernel
theorem dX9_groupOf_18 : decode cX9_groupOf 18 = .ok (.iload_n 1, 1) := by decide +kernel
theorem dX9_groupOf_19 : decode cX9_groupOf 19 = .ok (.iaload, 1) := by decide +kernel
theorem dX9_groupOf_20 : decode cX9_groupOf 20 = .ok (.ireturn, 1) := by decide +kernel
theorem dX9_centreOf_0 : decode cX9_centreOf 0 = .ok (.iload_n 1, 1) := by decide +kernel
theorem dX9_centreOf_1 : decode cX9_centreOf 1 = .ok (.ifCond .ge 5, 3) := by decide +kernel
theorem dX9_centreOf_4 : decode cX9_centreOf 4 = .ok (.iconst (-1), 1) := by decide +kernel
theorem dX9_centreOf_5 : decode cX9_centreOf 5 = .ok (.ireturn, 1) := by decide +kernel
theorem dX9_centreOf_6 : decode cX9_centreOf 6 = .ok (.aload_n 0, 1) := by decide +kernel
theorem dX9_centreOf_7 : decode cX9_centreOf 7 = .ok (.invokevirtual 150, 3) := by decide +kernel
theorem dX9_centreOf_10 : decode cX9_centreOf 10 = .ok (.iload_n 1, 1) := by decide +kernel
theorem dX9_centreOf_11 : decode cX9_centreOf 11 = .ok (.aload_n 0, 1) := by decide +kernel
theorem dX9_centreOf_12 : decode cX9_centreOf 12 = .ok (.getfield 145, 3) := by decide +kernel
theorem dX9_centreOf_15 : decode cX9_centreOf 15 = .ok (.if_icmp .ge 12, 3) := by decide +kernel
theorem dX9_centreOf_18 : decode cX9_centreOf 18 = .ok (.aload_n 0, 1) := by decide +kernel
theorem dX9_centreOf_19 : decode cX9_centreOf 19 = .ok (.getfield 43, 3) := by decide +kernel
theorem dX9_centreOf_22 : decode cX9_centreOf 22 = .ok (.iload_n 1, 1) := by decide +kernel
theorem dX9_centreOf_23 : decode cX9_centreOf 23 = .ok (.iaload, 1) := by decide +kernel
theorem dX9_centreOf_24 : decode cX9_centreOf 24 = .ok (.goto 5, 3) := by decide +kernel
theorem dX9_centreOf_27 : decode cX9_centreOf 27 = .ok (.bipush (-4), 2) := by decide +kernel
theorem dX9_centreOf_29 : decode cX9_centreOf 29 = .ok (.ireturn, 1) := by decide +kernel
theorem dX9_groupInfo_0 : decode cX9_groupInfo 0 = .ok (.iload_n 1, 1) := by decide +kernel
theorem dX9_groupInfo_1 : decode cX9_groupInfo 1 = .ok (.ifCond .lt 15, 3) := by decide +kernel
theorem dX9_groupInfo_4 : decode cX9_groupInfo 4 = .ok (.iload_n 2, 1) := by decide +kernel
theorem dX9_groupInfo_5 : decode cX9_groupInfo 5 = .ok (.i2l, 1) := by decide +kernel
theorem dX9_groupInfo_6 : decode cX9_groupInfo 6 = .ok (.lconst 0, 1) := by decide +kernel
theorem dX9_groupInfo_7 : decode cX9_groupInfo 7 = .ok (.ldc2_w 153, 3) := by decide +kernel
theorem dX9_groupInfo_10 : decode cX9_groupInfo 10 = .ok (.invokestatic 50, 3) := by decide +kernel
theorem dX9_groupInfo_13 : decode cX9_groupInfo 13 = .ok (.ifCond .ne 5, 3) := by decide +kernel
theorem dX9_groupInfo_16 : decode cX9_groupInfo 16 = .ok (.iconst (-1), 1) := by decide +kernel
theorem dX9_groupInfo_17 : decode cX9_groupInfo 17 = .ok (.ireturn, 1) := by decide +kernel
theorem dX9_groupInfo_18 : decode cX9_groupInfo 18 = .ok (.aload_n 0, 1) := by decide +kernel
theorem dX9_groupInfo_19 : decode cX9_groupInfo 19 = .ok (.invokevirtual 150, 3) := by decide +kernel
theorem dX9_groupInfo_22 : decode cX9_groupInfo 22 = .ok (.iload_n 1, 1) := by decide +kernel
theorem dX9_groupInfo_23 : decode cX9_groupInfo 23 = .ok (.aload_n 0, 1) := by decide +kernel
theorem dX9_groupInfo_24 : decode cX9_groupInfo 24 = .ok (.getfield 145, 3) := by decide +kernel
theorem dX9_groupInfo_27 : decode cX9_groupInfo 27 = .ok (.if_icmp .lt 6, 3) := by decide +kernel
theorem dX9_groupInfo_30 : decode cX9_groupInfo 30 = .ok (.bipush (-4), 2) := by decide +kernel
theorem dX9_groupInfo_32 : decode cX9_groupInfo 32 = .ok (.ireturn, 1) := by decide +kernel
theorem dX9_groupInfo_33 : decode cX9_groupInfo 33 = .ok (.iconst 0, 1) := by decide +kernel
theorem dX9_groupInfo_34 : decode cX9_groupInfo 34 = .ok (.istore_n 3, 1) := by decide +kernel
theorem dX9_groupInfo_35 : decode cX9_groupInfo 35 = .ok (.iconst 0, 1) := by decide +kernel
theorem dX9_groupInfo_36 : decode cX9_groupInfo 36 = .ok (.istore 4, 2) := by decide +kernel
theorem dX9_groupInfo_38 : decode cX9_groupInfo 38 = .ok (.iconst 0, 1) := by decide +kernel
theorem dX9_groupInfo_39 : decode cX9_groupInfo 39 = .ok (.istore 5, 2) := by decide +kernel
theorem dX9_groupInfo_41 : decode cX9_groupInfo 41 = .ok (.iconst 0, 1) := by decide +kernel
theorem dX9_groupInfo_42 : decode cX9_groupInfo 42 = .ok (.istore 6, 2) := by decide +kernel
theorem dX9_groupInfo_44 : decode cX9_groupInfo 44 = .ok (.iload 6, 2) := by decide +kernel
theorem dX9_groupInfo_46 : decode cX9_groupInfo 46 = .ok (.aload_n 0, 1) := by decide +kernel
theorem dX9_groupInfo_47 : decode cX9_groupInfo 47 = .ok (.getfield 7, 3) := by decide +kernel
theorem dX9_groupInfo_50 : decode cX9_groupInfo 50 = .ok (.iconst 0, 1) := by decide +kernel
theorem dX9_groupInfo_51 : decode cX9_groupInfo 51 = .ok (.iaload, 1) := by decide +kernel
theorem dX9_groupInfo_52 : decode cX9_groupInfo 52 = .ok (.if_icmp .ge 70, 3) := by decide +kernel
theorem dX9_groupInfo_55 : decode cX9_groupInfo 55 = .ok (.aload_n 0, 1) := by decide +kernel
theorem dX9_groupInfo_56 : decode cX9_groupInfo 56 = .ok (.getfield 40, 3) := by decide +kernel
theorem dX9_groupInfo_59 : decode cX9_groupInfo 59 = .ok (.iload 6, 2) := by decide +kernel
theorem dX9_groupInfo_61 : decode cX9_groupInfo 61 = .ok (.iaload, 1) := by decide +kernel
theorem dX9_groupInfo_62 : decode cX9_groupInfo 62 = .ok (.iload_n 1, 1) := by decide +kernel
theorem dX9_groupInfo_63 : decode cX9_groupInfo 63 = .ok (.if_icmp .ne 53, 3) := by decide +kernel
theorem dX9_groupInfo_66 : decode cX9_groupInfo 66 = .ok (.iinc 3 1, 3) := by decide +kernel
theorem dX9_groupInfo_69 : decode cX9_groupInfo 69 = .ok (.iload 4, 2) := by decide +kernel
theorem dX9_groupInfo_71 : decode cX9_groupInfo 71 = .ok (.iconst 1, 1) := by decide +kernel
theorem dX9_groupInfo_72 : decode cX9_groupInfo 72 = .ok (.aload_n 0, 1) := by decide +kernel
theorem dX9_groupInfo_73 : decode cX9_groupInfo 73 = .ok (.getfield 7, 3) := by decide +kernel
theorem dX9_groupInfo_76 : decode cX9_groupInfo 76 = .ok (.bipush 121, 2) := by decide +kernel
theorem dX9_groupInfo_78 : decode cX9_groupInfo 78 = .ok (.iload 6, 2) := by decide +kernel
theorem dX9_groupInfo_80 : decode cX9_groupInfo 80 = .ok (.iadd, 1) := by decide +kernel
theorem dX9_groupInfo_81 : decode cX9_groupInfo 81 = .ok (.iaload, 1) := by decide +kernel
theorem dX9_groupInfo_82 : decode cX9_groupInfo 82 = .ok (.ishl, 1) := by decide +kernel
theorem dX9_groupInfo_83 : decode cX9_groupInfo 83 = .ok (.ior, 1) := by decide +kernel
theorem dX9_groupInfo_84 : decode cX9_groupInfo 84 = .ok (.istore 4, 2) := by decide +kernel
theorem dX9_groupInfo_86 : decode cX9_groupInfo 86 = .ok (.aload_n 0, 1) := by decide +kernel
theorem dX9_groupInfo_87 : decode cX9_groupInfo 87 = .ok (.aload_n 0, 1) := by decide +kernel
theorem dX9_groupInfo_88 : decode cX9_groupInfo 88 = .ok (.getfield 43, 3) := by decide +kernel
theorem dX9_groupInfo_91 : decode cX9_groupInfo 91 = .ok (.iload_n 1, 1) := by decide +kernel
theorem dX9_groupInfo_92 : decode cX9_groupInfo 92 = .ok (.iaload, 1) := by decide +kernel
theorem dX9_groupInfo_93 : decode cX9_groupInfo 93 = .ok (.iload 6, 2) := by decide +kernel
theorem dX9_groupInfo_95 : decode cX9_groupInfo 95 = .ok (.invokevirtual 114, 3) := by decide +kernel
theorem dX9_groupInfo_98 : decode cX9_groupInfo 98 = .ok (.istore 7, 2) := by decide +kernel
theorem dX9_groupInfo_100 : decode cX9_groupInfo 100 = .ok (.iload 7, 2) := by decide +kernel
theorem dX9_groupInfo_102 : decode cX9_groupInfo 102 = .ok (.iload 5, 2) := by decide +kernel
theorem dX9_groupInfo_104 : decode cX9_groupInfo 104 = .ok (.if_icmp .le 8, 3) := by decide +kernel
theorem dX9_groupInfo_107 : decode cX9_groupInfo 107 = .ok (.iload 7, 2) := by decide +kernel
theorem dX9_groupInfo_109 : decode cX9_groupInfo 109 = .ok (.goto 5, 3) := by decide +kernel
theorem dX9_groupInfo_112 : decode cX9_groupInfo 112 = .ok (.iload 5, 2) := by decide +kernel
theorem dX9_groupInfo_114 : decode cX9_groupInfo 114 = .ok (.istore 5, 2) := by decide +kernel
theorem dX9_groupInfo_116 : decode cX9_groupInfo 116 = .ok (.iinc 6 1, 3) := by decide +kernel
theorem dX9_groupInfo_119 : decode cX9_groupInfo 119 = .ok (.goto (-75), 3) := by decide +kernel
theorem dX9_groupInfo_122 : decode cX9_groupInfo 122 = .ok (.iconst 0, 1) := by decide +kernel
theorem dX9_groupInfo_123 : decode cX9_groupInfo 123 = .ok (.istore 6, 2) := by decide +kernel
theorem dX9_groupInfo_125 : decode cX9_groupInfo 125 = .ok (.iload 4, 2) := by decide +kernel
theorem dX9_groupInfo_127 : decode cX9_groupInfo 127 = .ok (.istore 7, 2) := by decide +kernel
theorem dX9_groupInfo_129 : decode cX9_groupInfo 129 = .ok (.iload 7, 2) := by decide +kernel
theorem dX9_groupInfo_131 : decode cX9_groupInfo 131 = .ok (.ifCond .eq 18, 3) := by decide +kernel
theorem dX9_groupInfo_134 : decode cX9_groupInfo 134 = .ok (.iinc 6 1, 3) := by decide +kernel
theorem dX9_groupInfo_137 : decode cX9_groupInfo 137 = .ok (.iload 7, 2) := by decide +kernel
theorem dX9_groupInfo_139 : decode cX9_groupInfo 139 = .ok (.iload 7, 2) := by decide +kernel
theorem dX9_groupInfo_141 : decode cX9_groupInfo 141 = .ok (.iconst 1, 1) := by decide +kernel
theorem dX9_groupInfo_142 : decode cX9_groupInfo 142 = .ok (.isub, 1) := by decide +kernel
theorem dX9_groupInfo_143 : decode cX9_groupInfo 143 = .ok (.iand, 1) := by decide +kernel
theorem dX9_groupInfo_144 : decode cX9_groupInfo 144 = .ok (.istore 7, 2) := by decide +kernel
theorem dX9_groupInfo_146 : decode cX9_groupInfo 146 = .ok (.goto (-17), 3) := by decide +kernel
theorem dX9_groupInfo_149 : decode cX9_groupInfo 149 = .ok (.iload_n 2, 1) := by decide +kernel
theorem dX9_groupInfo_150 : decode cX9_groupInfo 150 = .ok (.ifCond .ne 7, 3) := by decide +kernel
theorem dX9_groupInfo_153 : decode cX9_groupInfo 153 = .ok (.iload_n 3, 1) := by decide +kernel
theorem dX9_groupInfo_154 : decode cX9_groupInfo 154 = .ok (.goto 15, 3) := by decide +kernel
theorem dX9_groupInfo_157 : decode cX9_groupInfo 157 = .ok (.iload_n 2, 1) := by decide +kernel
theorem dX9_groupInfo_158 : decode cX9_groupInfo 158 = .ok (.iconst 1, 1) := by decide +kernel
theorem dX9_groupInfo_159 : decode cX9_groupInfo 159 = .ok (.if_icmp .ne 8, 3) := by decide +kernel
theorem dX9_groupInfo_162 : decode cX9_groupInfo 162 = .ok (.iload 6, 2) := by decide +kernel
theorem dX9_groupInfo_164 : decode cX9_groupInfo 164 = .ok (.goto 5, 3) := by decide +kernel
theorem dX9_groupInfo_167 : decode cX9_groupInfo 167 = .ok (.iload 5, 2) := by decide +kernel
theorem dX9_groupInfo_169 : decode cX9_groupInfo 169 = .ok (.ireturn, 1) := by decide +kernel
theorem dX9_crossed_0 : decode cX9_crossed 0 = .ok (.bipush (-4), 2) := by decide +kernel
theorem dX9_crossed_2 : decode cX9_crossed 2 = .ok (.istore 4, 2) := by decide +kernel
theorem dX9_crossed_4 : decode cX9_crossed 4 = .ok (.aload_n 0, 1) := by decide +kernel
theorem dX9_crossed_5 : decode cX9_crossed 5 = .ok (.iload_n 1, 1) := by decide +kernel
theorem dX9_crossed_6 : decode cX9_crossed 6 = .ok (.invokevirtual 101, 3) := by decide +kernel
theorem dX9_crossed_9 : decode cX9_crossed 9 = .ok (.iconst 1, 1) := by decide +kernel
theorem dX9_crossed_10 : decode cX9_crossed 10 = .ok (.istore 5, 2) := by decide +kernel
theorem dX9_crossed_12 : decode cX9_crossed 12 = .ok (.iload 5, 2) := by decide +kernel
theorem dX9_crossed_14 : decode cX9_crossed 14 = .ok (.aload_n 0, 1) := by decide +kernel
theorem dX9_crossed_15 : decode cX9_crossed 15 = .ok (.getfield 7, 3) := by decide +kernel
theorem dX9_crossed_18 : decode cX9_crossed 18 = .ok (.iconst 1, 1) := by decide +kernel
theorem dX9_crossed_19 : decode cX9_crossed 19 = .ok (.iload_n 2, 1) := by decide +kernel
theorem dX9_crossed_20 : decode cX9_crossed 20 = .ok (.iadd, 1) := by decide +kernel
theorem dX9_crossed_21 : decode cX9_crossed 21 = .ok (.iaload, 1) := by decide +kernel
theorem dX9_crossed_22 : decode cX9_crossed 22 = .ok (.if_icmp .ge 168, 3) := by decide +kernel
theorem dX9_crossed_25 : decode cX9_crossed 25 = .ok (.iconst 1, 1) := by decide +kernel
theorem dX9_crossed_26 : decode cX9_crossed 26 = .ok (.istore 6, 2) := by decide +kernel
theorem dX9_crossed_28 : decode cX9_crossed 28 = .ok (.iload 6, 2) := by decide +kernel
theorem dX9_crossed_30 : decode cX9_crossed 30 = .ok (.aload_n 0, 1) := by decide +kernel
theorem dX9_crossed_31 : decode cX9_crossed 31 = .ok (.getfield 7, 3) := by decide +kernel
theorem dX9_crossed_34 : decode cX9_crossed 34 = .ok (.iconst 1, 1) := by decide +kernel
theorem dX9_crossed_35 : decode cX9_crossed 35 = .ok (.iload_n 3, 1) := by decide +kernel
theorem dX9_crossed_36 : decode cX9_crossed 36 = .ok (.iadd, 1) := by decide +kernel
theorem dX9_crossed_37 : decode cX9_crossed 37 = .ok (.iaload, 1) := by decide +kernel
theorem dX9_crossed_38 : decode cX9_crossed 38 = .ok (.if_icmp .ge 146, 3) := by decide +kernel
theorem dX9_crossed_41 : decode cX9_crossed 41 = .ok (.iload 5, 2) := by decide +kernel
theorem dX9_crossed_43 : decode cX9_crossed 43 = .ok (.iload 6, 2) := by decide +kernel
theorem dX9_crossed_45 : decode cX9_crossed 45 = .ok (.iadd, 1) := by decide +kernel
theorem dX9_crossed_46 : decode cX9_crossed 46 = .ok (.bipush 8, 2) := by decide +kernel
theorem dX9_crossed_48 : decode cX9_crossed 48 = .ok (.if_icmp .gt 136, 3) := by decide +kernel
theorem dX9_crossed_51 : decode cX9_crossed 51 = .ok (.aload_n 0, 1) := by decide +kernel
theorem dX9_crossed_52 : decode cX9_crossed 52 = .ok (.iload 5, 2) := by decide +kernel
theorem dX9_crossed_54 : decode cX9_crossed 54 = .ok (.iload 6, 2) := by decide +kernel
theorem dX9_crossed_56 : decode cX9_crossed 56 = .ok (.iadd, 1) := by decide +kernel
theorem dX9_crossed_57 : decode cX9_crossed 57 = .ok (.putfield 83, 3) := by decide +kernel
theorem dX9_crossed_60 : decode cX9_crossed 60 = .ok (.iconst 0, 1) := by decide +kernel
theorem dX9_crossed_61 : decode cX9_crossed 61 = .ok (.istore 7, 2) := by decide +kernel
theorem dX9_crossed_63 : decode cX9_crossed 63 = .ok (.iload 7, 2) := by decide +kernel
theorem dX9_crossed_65 : decode cX9_crossed 65 = .ok (.iload 5, 2) := by decide +kernel
theorem dX9_crossed_67 : decode cX9_crossed 67 = .ok (.if_icmp .ge 31, 3) := by decide +kernel
theorem dX9_crossed_70 : decode cX9_crossed 70 = .ok (.aload_n 0, 1) := by decide +kernel
theorem dX9_crossed_71 : decode cX9_crossed 71 = .ok (.getfield 22, 3) := by decide +kernel
theorem dX9_crossed_74 : decode cX9_crossed 74 = .ok (.iload 7, 2) := by decide +kernel
theorem dX9_crossed_76 : decode cX9_crossed 76 = .ok (.aload_n 0, 1) := by decide +kernel
theorem dX9_crossed_77 : decode cX9_crossed 77 = .ok (.getfield 7, 3) := by decide +kernel
theorem dX9_crossed_80 : decode cX9_crossed 80 = .ok (.bipush 13, 2) := by decide +kernel
theorem dX9_crossed_82 : decode cX9_crossed 82 = .ok (.bipush 8, 2) := by decide +kernel
theorem dX9_crossed_84 : decode cX9_crossed 84 = .ok (.iload_n 2, 1) := by decide +kernel
theorem dX9_crossed_85 : decode cX9_crossed 85 = .ok (.imul, 1) := by decide +kernel
theorem dX9_crossed_86 : decode cX9_crossed 86 = .ok (.iadd, 1) := by decide +kernel
theorem dX9_crossed_87 : decode cX9_crossed 87 = .ok (.iload 7, 2) := by decide +kernel
theorem dX9_crossed_89 : decode cX9_crossed 89 = .ok (.iadd, 1) := by decide +kernel
theorem dX9_crossed_90 : decode cX9_crossed 90 = .ok (.iaload, 1) := by decide +kernel
theorem dX9_crossed_91 : decode cX9_crossed 91 = .ok (.iastore, 1) := by decide +kernel
theorem dX9_crossed_92 : decode cX9_crossed 92 = .ok (.iinc 7 1, 3) := by decide +kernel
theorem dX9_crossed_95 : decode cX9_crossed 95 = .ok (.goto (-32), 3) := by decide +kernel
theorem dX9_crossed_98 : decode cX9_crossed 98 = .ok (.iconst 0, 1) := by decide +kernel
theorem dX9_crossed_99 : decode cX9_crossed 99 = .ok (.istore 7, 2) := by decide +kernel
theorem dX9_crossed_101 : decode cX9_crossed 101 = .ok (.iload 7, 2) := by decide +kernel
theorem dX9_crossed_103 : decode cX9_crossed 103 = .ok (.iload 6, 2) := by decide +kernel
theorem dX9_crossed_105 : decode cX9_crossed 105 = .ok (.if_icmp .ge 46, 3) := by decide +kernel
theorem dX9_crossed_108 : decode cX9_crossed 108 = .ok (.aload_n 0, 1) := by decide +kernel
theorem dX9_crossed_109 : decode cX9_crossed 109 = .ok (.getfield 22, 3) := by decide +kernel
theorem dX9_crossed_112 : decode cX9_crossed 112 = .ok (.iload 5, 2) := by decide +kernel
theorem dX9_crossed_114 : decode cX9_crossed 114 = .ok (.iload 7, 2) := by decide +kernel
theorem dX9_crossed_116 : decode cX9_crossed 116 = .ok (.iadd, 1) := by decide +kernel
theorem dX9_crossed_117 : decode cX9_crossed 117 = .ok (.aload_n 0, 1) := by decide +kernel
theorem dX9_crossed_118 : decode cX9_crossed 118 = .ok (.getfield 7, 3) := by decide +kernel
theorem dX9_crossed_121 : decode cX9_crossed 121 = .ok (.bipush 13, 2) := by decide +kernel
theorem dX9_crossed_123 : decode cX9_crossed 123 = .ok (.bipush 8, 2) := by decide +kernel
theorem dX9_crossed_125 : decode cX9_crossed 125 = .ok (.iload_n 3, 1) := by decide +kernel
theorem dX9_crossed_126 : decode cX9_crossed 126 = .ok (.imul, 1) := by decide +kernel
theorem dX9_crossed_127 : decode cX9_crossed 127 = .ok (.iadd, 1) := by decide +kernel
theorem dX9_crossed_128 : decode cX9_crossed 128 = .ok (.aload_n 0, 1) := by decide +kernel
theorem dX9_crossed_129 : decode cX9_crossed 129 = .ok (.getfield 7, 3) := by decide +kernel
theorem dX9_crossed_132 : decode cX9_crossed 132 = .ok (.iconst 1, 1) := by decide +kernel
theorem dX9_crossed_133 : decode cX9_crossed 133 = .ok (.iload_n 3, 1) := by decide +kernel
theorem dX9_crossed_134 : decode cX9_crossed 134 = .ok (.iadd, 1) := by decide +kernel
theorem dX9_crossed_135 : decode cX9_crossed 135 = .ok (.iaload, 1) := by decide +kernel
theorem dX9_crossed_136 : decode cX9_crossed 136 = .ok (.iadd, 1) := by decide +kernel
theorem dX9_crossed_137 : decode cX9_crossed 137 = .ok (.iload 6, 2) := by decide +kernel
theorem dX9_crossed_139 : decode cX9_crossed 139 = .ok (.isub, 1) := by decide +kernel
theorem dX9_crossed_140 : decode cX9_crossed 140 = .ok (.iload 7, 2) := by decide +kernel
theorem dX9_crossed_142 : decode cX9_crossed 142 = .ok (.iadd, 1) := by decide +kernel
theorem dX9_crossed_143 : decode cX9_crossed 143 = .ok (.iaload, 1) := by decide +kernel
theorem dX9_crossed_144 : decode cX9_crossed 144 = .ok (.iastore, 1) := by decide +kernel
theorem dX9_crossed_145 : decode cX9_crossed 145 = .ok (.iinc 7 1, 3) := by decide +kernel
theorem dX9_crossed_148 : decode cX9_crossed 148 = .ok (.goto (-47), 3) := by decide +kernel
theorem dX9_crossed_151 : decode cX9_crossed 151 = .ok (.aload_n 0, 1) := by decide +kernel
theorem dX9_crossed_152 : decode cX9_crossed 152 = .ok (.invokevirtual 108, 3) := by decide +kernel
theorem dX9_crossed_155 : decode cX9_crossed 155 = .ok (.istore 7, 2) := by decide +kernel
theorem dX9_crossed_157 : decode cX9_crossed 157 = .ok (.iload 4, 2) := by decide +kernel
theorem dX9_crossed_159 : decode cX9_crossed 159 = .ok (.ifCond .lt 10, 3) := by decide +kernel
theorem dX9_crossed_162 : decode cX9_crossed 162 = .ok (.iload 7, 2) := by decide +kernel
theorem dX9_crossed_164 : decode cX9_crossed 164 = .ok (.iload 4, 2) := by decide +kernel
theorem dX9_crossed_166 : decode cX9_crossed 166 = .ok (.if_icmp .ge 8, 3) := by decide +kernel
theorem dX9_crossed_169 : decode cX9_crossed 169 = .ok (.iload 7, 2) := by decide +kernel
theorem dX9_crossed_171 : decode cX9_crossed 171 = .ok (.goto 5, 3) := by decide +kernel
theorem dX9_crossed_174 : decode cX9_crossed 174 = .ok (.iload 4, 2) := by decide +kernel
theorem dX9_crossed_176 : decode cX9_crossed 176 = .ok (.istore 4, 2) := by decide +kernel
theorem dX9_crossed_178 : decode cX9_crossed 178 = .ok (.iinc 6 1, 3) := by decide +kernel
theorem dX9_crossed_181 : decode cX9_crossed 181 = .ok (.goto (-153), 3) := by decide +kernel
theorem dX9_crossed_184 : decode cX9_crossed 184 = .ok (.iinc 5 1, 3) := by decide +kernel
theorem dX9_crossed_187 : decode cX9_crossed 187 = .ok (.goto (-175), 3) := by decide +kernel
theorem dX9_crossed_190 : decode cX9_crossed 190 = .ok (.iload 4, 2) := by decide +kernel
theorem dX9_crossed_192 : decode cX9_crossed 192 = .ok (.ireturn, 1) := by decide +kernel
theorem dX9_crossingCost_0 : decode cX9_crossingCost 0 = .ok (.aload_n 0, 1) := by decide +kernel
theorem dX9_crossingCost_1 : decode cX9_crossingCost 1 = .ok (.iload_n 1, 1) := by decide +kernel
theorem dX9_crossingCost_2 : decode cX9_crossingCost 2 = .ok (.invokevirtual 68, 3) := by decide +kernel
theorem dX9_crossingCost_5 : decode cX9_crossingCost 5 = .ok (.ifCond .eq 34, 3) := by decide +kernel
theorem dX9_crossingCost_8 : decode cX9_crossingCost 8 = .ok (.aload_n 0, 1) := by decide +kernel
theorem dX9_crossingCost_9 : decode cX9_crossingCost 9 = .ok (.iload_n 2, 1) := by decide +kernel
theorem dX9_crossingCost_10 : decode cX9_crossingCost 10 = .ok (.invokevirtual 68, 3) := by decide +kernel
theorem dX9_crossingCost_13 : decode cX9_crossingCost 13 = .ok (.ifCond .eq 26, 3) := by decide +kernel
theorem dX9_crossingCost_16 : decode cX9_crossingCost 16 = .ok (.aload_n 0, 1) := by decide +kernel
theorem dX9_crossingCost_17 : decode cX9_crossingCost 17 = .ok (.iload_n 3, 1) := by decide +kernel
theorem dX9_crossingCost_18 : decode cX9_crossingCost 18 = .ok (.invokevirtual 68, 3) := by decide +kernel
theorem dX9_crossingCost_21 : decode cX9_crossingCost 21 = .ok (.ifCond .eq 18, 3) := by decide +kernel
theorem dX9_crossingCost_24 : decode cX9_crossingCost 24 = .ok (.iload_n 1, 1) := by decide +kernel
theorem dX9_crossingCost_25 : decode cX9_crossingCost 25 = .ok (.iload_n 2, 1) := by decide +kernel
theorem dX9_crossingCost_26 : decode cX9_crossingCost 26 = .ok (.if_icmp .eq 13, 3) := by decide +kernel
theorem dX9_crossingCost_29 : decode cX9_crossingCost 29 = .ok (.iload_n 1, 1) := by decide +kernel
theorem dX9_crossingCost_30 : decode cX9_crossingCost 30 = .ok (.iload_n 3, 1) := by decide +kernel
theorem dX9_crossingCost_31 : decode cX9_crossingCost 31 = .ok (.if_icmp .eq 8, 3) := by decide +kernel
theorem dX9_crossingCost_34 : decode cX9_crossingCost 34 = .ok (.iload_n 2, 1) := by decide +kernel
theorem dX9_crossingCost_35 : decode cX9_crossingCost 35 = .ok (.iload_n 3, 1) := by decide +kernel
theorem dX9_crossingCost_36 : decode cX9_crossingCost 36 = .ok (.if_icmp .ne 5, 3) := by decide +kernel
theorem dX9_crossingCost_39 : decode cX9_crossingCost 39 = .ok (.iconst (-1), 1) := by decide +kernel
theorem dX9_crossingCost_40 : decode cX9_crossingCost 40 = .ok (.ireturn, 1) := by decide +kernel
theorem dX9_crossingCost_41 : decode cX9_crossingCost 41 = .ok (.aload_n 0, 1) := by decide +kernel
theorem dX9_crossingCost_42 : decode cX9_crossingCost 42 = .ok (.iload_n 1, 1) := by decide +kernel
theorem dX9_crossingCost_43 : decode cX9_crossingCost 43 = .ok (.iload_n 2, 1) := by decide +kernel
theorem dX9_crossingCost_44 : decode cX9_crossingCost 44 = .ok (.iload_n 3, 1) := by decide +kernel
theorem dX9_crossingCost_45 : decode cX9_crossingCost 45 = .ok (.invokevirtual 155, 3) := by decide +kernel
theorem dX9_crossingCost_48 : decode cX9_crossingCost 48 = .ok (.ireturn, 1) := by decide +kernel
theorem dX9_crossing_0 : decode cX9_crossing 0 = .ok (.aload_n 0, 1) := by decide +kernel
theorem dX9_crossing_1 : decode cX9_crossing 1 = .ok (.iload_n 1, 1) := by decide +kernel
theorem dX9_crossing_2 : decode cX9_crossing 2 = .ok (.invokevirtual 68, 3) := by decide +kernel
theorem dX9_crossing_5 : decode cX9_crossing 5 = .ok (.ifCond .eq 15, 3) := by decide +kernel
theorem dX9_crossing_8 : decode cX9_crossing 8 = .ok (.iload_n 2, 1) := by decide +kernel
theorem dX9_crossing_9 : decode cX9_crossing 9 = .ok (.i2l, 1) := by decide +kernel
theorem dX9_crossing_10 : decode cX9_crossing 10 = .ok (.lconst 0, 1) := by decide +kernel
theorem dX9_crossing_11 : decode cX9_crossing 11 = .ok (.ldc2_w 148, 3) := by decide +kernel
theorem dX9_crossing_14 : decode cX9_crossing 14 = .ok (.invokestatic 50, 3) := by decide +kernel
theorem dX9_crossing_17 : decode cX9_crossing 17 = .ok (.ifCond .ne 5, 3) := by decide +kernel
theorem dX9_crossing_20 : decode cX9_crossing 20 = .ok (.iconst (-1), 1) := by decide +kernel
theorem dX9_crossing_21 : decode cX9_crossing 21 = .ok (.ireturn, 1) := by decide +kernel
theorem dX9_crossing_22 : decode cX9_crossing 22 = .ok (.bipush (-4), 2) := by decide +kernel
theorem dX9_crossing_24 : decode cX9_crossing 24 = .ok (.istore_n 3, 1) := by decide +kernel
theorem dX9_crossing_25 : decode cX9_crossing 25 = .ok (.iconst 0, 1) := by decide +kernel
theorem dX9_crossing_26 : decode cX9_crossing 26 = .ok (.istore 4, 2) := by decide +kernel
theorem dX9_crossing_28 : decode cX9_crossing 28 = .ok (.iconst 0, 1) := by decide +kernel
theorem dX9_crossing_29 : decode cX9_crossing 29 = .ok (.istore 5, 2) := by decide +kernel
theorem dX9_crossing_31 : decode cX9_crossing 31 = .ok (.iload 5, 2) := by decide +kernel
theorem dX9_crossing_33 : decode cX9_crossing 33 = .ok (.aload_n 0, 1) := by decide +kernel
theorem dX9_crossing_34 : decode cX9_crossing 34 = .ok (.getfield 7, 3) := by decide +kernel
theorem dX9_crossing_37 : decode cX9_crossing 37 = .ok (.iconst 0, 1) := by decide +kernel
theorem dX9_crossing_38 : decode cX9_crossing 38 = .ok (.iaload, 1) := by decide +kernel
theorem dX9_crossing_39 : decode cX9_crossing 39 = .ok (.if_icmp .ge 155, 3) := by decide +kernel
theorem dX9_crossing_42 : decode cX9_crossing 42 = .ok (.iconst 0, 1) := by decide +kernel
theorem dX9_crossing_43 : decode cX9_crossing 43 = .ok (.istore 6, 2) := by decide +kernel
theorem dX9_crossing_45 : decode cX9_crossing 45 = .ok (.iload 6, 2) := by decide +kernel
theorem dX9_crossing_47 : decode cX9_crossing 47 = .ok (.aload_n 0, 1) := by decide +kernel
theorem dX9_crossing_48 : decode cX9_crossing 48 = .ok (.getfield 7, 3) := by decide +kernel
theorem dX9_crossing_51 : decode cX9_crossing 51 = .ok (.iconst 0, 1) := by decide +kernel
theorem dX9_crossing_52 : decode cX9_crossing 52 = .ok (.iaload, 1) := by decide +kernel
theorem dX9_crossing_53 : decode cX9_crossing 53 = .ok (.if_icmp .ge 135, 3) := by decide +kernel
theorem dX9_crossing_56 : decode cX9_crossing 56 = .ok (.aload_n 0, 1) := by decide +kernel
theorem dX9_crossing_57 : decode cX9_crossing 57 = .ok (.iload 5, 2) := by decide +kernel
theorem dX9_crossing_59 : decode cX9_crossing 59 = .ok (.invokevirtual 76, 3) := by decide +kernel
theorem dX9_crossing_62 : decode cX9_crossing 62 = .ok (.istore 7, 2) := by decide +kernel
theorem dX9_crossing_64 : decode cX9_crossing 64 = .ok (.aload_n 0, 1) := by decide +kernel
theorem dX9_crossing_65 : decode cX9_crossing 65 = .ok (.iload 6, 2) := by decide +kernel
theorem dX9_crossing_67 : decode cX9_crossing 67 = .ok (.invokevirtual 76, 3) := by decide +kernel
theorem dX9_crossing_70 : decode cX9_crossing 70 = .ok (.istore 8, 2) := by decide +kernel
theorem dX9_crossing_72 : decode cX9_crossing 72 = .ok (.iload 7, 2) := by decide +kernel
theorem dX9_crossing_74 : decode cX9_crossing 74 = .ok (.iload 8, 2) := by decide +kernel
theorem dX9_crossing_76 : decode cX9_crossing 76 = .ok (.if_icmp .eq 106, 3) := by decide +kernel
theorem dX9_crossing_79 : decode cX9_crossing 79 = .ok (.aload_n 0, 1) := by decide +kernel
theorem dX9_crossing_80 : decode cX9_crossing 80 = .ok (.iload 7, 2) := by decide +kernel
theorem dX9_crossing_82 : decode cX9_crossing 82 = .ok (.iload_n 1, 1) := by decide +kernel
theorem dX9_crossing_83 : decode cX9_crossing 83 = .ok (.invokevirtual 72, 3) := by decide +kernel
theorem dX9_crossing_86 : decode cX9_crossing 86 = .ok (.ifCond .eq 96, 3) := by decide +kernel
theorem dX9_crossing_89 : decode cX9_crossing 89 = .ok (.aload_n 0, 1) := by decide +kernel
theorem dX9_crossing_90 : decode cX9_crossing 90 = .ok (.iload 8, 2) := by decide +kernel
theorem dX9_crossing_92 : decode cX9_crossing 92 = .ok (.iload_n 1, 1) := by decide +kernel
theorem dX9_crossing_93 : decode cX9_crossing 93 = .ok (.invokevirtual 72, 3) := by decide +kernel
theorem dX9_crossing_96 : decode cX9_crossing 96 = .ok (.ifCond .eq 86, 3) := by decide +kernel
theorem dX9_crossing_99 : decode cX9_crossing 99 = .ok (.aload_n 0, 1) := by decide +kernel
theorem dX9_crossing_100 : decode cX9_crossing 100 = .ok (.iload_n 1, 1) := by decide +kernel
theorem dX9_crossing_101 : decode cX9_crossing 101 = .ok (.iload 7, 2) := by decide +kernel
theorem dX9_crossing_103 : decode cX9_crossing 103 = .ok (.iload 8, 2) := by decide +kernel
theorem dX9_crossing_105 : decode cX9_crossing 105 = .ok (.invokevirtual 155, 3) := by decide +kernel
theorem dX9_crossing_108 : decode cX9_crossing 108 = .ok (.istore 9, 2) := by decide +kernel
theorem dX9_crossing_110 : decode cX9_crossing 110 = .ok (.iload 9, 2) := by decide +kernel
theorem dX9_crossing_112 : decode cX9_crossing 112 = .ok (.i2l, 1) := by decide +kernel
theorem dX9_crossing_113 : decode cX9_crossing 113 = .ok (.lconst 0, 1) := by decide +kernel
theorem dX9_crossing_114 : decode cX9_crossing 114 = .ok (.iload_n 2, 1) := by decide +kernel
theorem dX9_crossing_115 : decode cX9_crossing 115 = .ok (.i2l, 1) := by decide +kernel
theorem dX9_crossing_116 : decode cX9_crossing 116 = .ok (.invokestatic 50, 3) := by decide +kernel
theorem dX9_crossing_119 : decode cX9_crossing 119 = .ok (.ifCond .eq 31, 3) := by decide +kernel
theorem dX9_crossing_122 : decode cX9_crossing 122 = .ok (.iload 9, 2) := by decide +kernel
theorem dX9_crossing_124 : decode cX9_crossing 124 = .ok (.aload_n 0, 1) := by decide +kernel
theorem dX9_crossing_125 : decode cX9_crossing 125 = .ok (.iload_n 1, 1) := by decide +kernel
theorem dX9_crossing_126 : decode cX9_crossing 126 = .ok (.iload 7, 2) := by decide +kernel
theorem dX9_crossing_128 : decode cX9_crossing 128 = .ok (.invokevirtual 114, 3) := by decide +kernel
theorem dX9_crossing_131 : decode cX9_crossing 131 = .ok (.if_icmp .ge 19, 3) := by decide +kernel
theorem dX9_crossing_134 : decode cX9_crossing 134 = .ok (.iload 9, 2) := by decide +kernel
theorem dX9_crossing_136 : decode cX9_crossing 136 = .ok (.aload_n 0, 1) := by decide +kernel
theorem dX9_crossing_137 : decode cX9_crossing 137 = .ok (.iload_n 1, 1) := by decide +kernel
theorem dX9_crossing_138 : decode cX9_crossing 138 = .ok (.iload 8, 2) := by decide +kernel
theorem dX9_crossing_140 : decode cX9_crossing 140 = .ok (.invokevirtual 114, 3) := by decide +kernel
theorem dX9_crossing_143 : decode cX9_crossing 143 = .ok (.if_icmp .ge 7, 3) := by decide +kernel
theorem dX9_crossing_146 : decode cX9_crossing 146 = .ok (.iconst 1, 1) := by decide +kernel
theorem dX9_crossing_147 : decode cX9_crossing 147 = .ok (.goto 4, 3) := by decide +kernel
theorem dX9_crossing_150 : decode cX9_crossing 150 = .ok (.iconst 0, 1) := by decide +kernel
theorem dX9_crossing_151 : decode cX9_crossing 151 = .ok (.istore 10, 2) := by decide +kernel
theorem dX9_crossing_153 : decode cX9_crossing 153 = .ok (.iload 10, 2) := by decide +kernel
theorem dX9_crossing_155 : decode cX9_crossing 155 = .ok (.ifCond .eq 27, 3) := by decide +kernel
theorem dX9_crossing_158 : decode cX9_crossing 158 = .ok (.iload_n 3, 1) := by decide +kernel
theorem dX9_crossing_159 : decode cX9_crossing 159 = .ok (.ifCond .lt 10, 3) := by decide +kernel
theorem dX9_crossing_162 : decode cX9_crossing 162 = .ok (.iload 9, 2) := by decide +kernel
theorem dX9_crossing_164 : decode cX9_crossing 164 = .ok (.iload 4, 2) := by decide +kernel
theorem dX9_crossing_166 : decode cX9_crossing 166 = .ok (.if_icmp .ge 16, 3) := by decide +kernel
theorem dX9_crossing_169 : decode cX9_crossing 169 = .ok (.bipush 100, 2) := by decide +kernel
theorem dX9_crossing_171 : decode cX9_crossing 171 = .ok (.iload 7, 2) := by decide +kernel
theorem dX9_crossing_173 : decode cX9_crossing 173 = .ok (.imul, 1) := by decide +kernel
theorem dX9_crossing_174 : decode cX9_crossing 174 = .ok (.iload 8, 2) := by decide +kernel
theorem dX9_crossing_176 : decode cX9_crossing 176 = .ok (.iadd, 1) := by decide +kernel
theorem dX9_crossing_177 : decode cX9_crossing 177 = .ok (.istore_n 3, 1) := by decide +kernel
theorem dX9_crossing_178 : decode cX9_crossing 178 = .ok (.iload 9, 2) := by decide +kernel
theorem dX9_crossing_180 : decode cX9_crossing 180 = .ok (.istore 4, 2) := by decide +kernel
theorem dX9_crossing_182 : decode cX9_crossing 182 = .ok (.iinc 6 1, 3) := by decide +kernel
theorem dX9_crossing_185 : decode cX9_crossing 185 = .ok (.goto (-140), 3) := by decide +kernel
theorem dX9_crossing_188 : decode cX9_crossing 188 = .ok (.iinc 5 1, 3) := by decide +kernel
theorem dX9_crossing_191 : decode cX9_crossing 191 = .ok (.goto (-160), 3) := by decide +kernel
theorem dX9_crossing_194 : decode cX9_crossing 194 = .ok (.iload_n 3, 1) := by decide +kernel
theorem dX9_crossing_195 : decode cX9_crossing 195 = .ok (.ireturn, 1) := by decide +kernel
