theorem dX0_init_0 : decode cX0_init 0 = .ok (.aload_n 0, 1) := by decide +kernel
theorem dX0_init_1 : decode cX0_init 1 = .ok (.invokespecial 3, 3) := by decide +kernel
theorem dX0_init_4 : decode cX0_init 4 = .ok (.aload_n 0, 1) := by decide +kernel
theorem dX0_init_5 : decode cX0_init 5 = .ok (.new 9, 3) := by decide +kernel
theorem dX0_init_8 : decode cX0_init 8 = .ok (.dup, 1) := by decide +kernel
theorem dX0_init_9 : decode cX0_init 9 = .ok (.invokespecial 11, 3) := by decide +kernel
theorem dX0_init_12 : decode cX0_init 12 = .ok (.putfield 12, 3) := by decide +kernel
theorem dX0_init_15 : decode cX0_init 15 = .ok (.aload_n 0, 1) := by decide +kernel
theorem dX0_init_16 : decode cX0_init 16 = .ok (.new 9, 3) := by decide +kernel
theorem dX0_init_19 : decode cX0_init 19 = .ok (.dup, 1) := by decide +kernel
theorem dX0_init_20 : decode cX0_init 20 = .ok (.invokespecial 11, 3) := by decide +kernel
theorem dX0_init_23 : decode cX0_init 23 = .ok (.putfield 18, 3) := by decide +kernel
theorem dX0_init_26 : decode cX0_init 26 = .ok (.aload_n 0, 1) := by decide +kernel
theorem dX0_init_27 : decode cX0_init 27 = .ok (.bipush 12, 2) := by decide +kernel
theorem dX0_init_29 : decode cX0_init 29 = .ok (.newarray .int, 2) := by decide +kernel
theorem dX0_init_31 : decode cX0_init 31 = .ok (.putfield 21, 3) := by decide +kernel
theorem dX0_init_34 : decode cX0_init 34 = .ok (.aload_n 0, 1) := by decide +kernel
theorem dX0_init_35 : decode cX0_init 35 = .ok (.bipush 12, 2) := by decide +kernel
theorem dX0_init_37 : decode cX0_init 37 = .ok (.newarray .int, 2) := by decide +kernel
theorem dX0_init_39 : decode cX0_init 39 = .ok (.putfield 25, 3) := by decide +kernel
theorem dX0_init_42 : decode cX0_init 42 = .ok (.return_, 1) := by decide +kernel
theorem dX1_init_0 : decode cX1_init 0 = .ok (.aload_n 0, 1) := by decide +kernel
theorem dX1_init_1 : decode cX1_init 1 = .ok (.invokespecial 3, 3) := by decide +kernel
theorem dX1_init_4 : decode cX1_init 4 = .ok (.aload_n 0, 1) := by decide +kernel
theorem dX1_init_5 : decode cX1_init 5 = .ok (.new 9, 3) := by decide +kernel
theorem dX1_init_8 : decode cX1_init 8 = .ok (.dup, 1) := by decide +kernel
theorem dX1_init_9 : decode cX1_init 9 = .ok (.invokespecial 11, 3) := by decide +kernel
theorem dX1_init_12 : decode cX1_init 12 = .ok (.putfield 12, 3) := by decide +kernel
theorem dX1_init_15 : decode cX1_init 15 = .ok (.aload_n 0, 1) := by decide +kernel
theorem dX1_init_16 : decode cX1_init 16 = .ok (.new 9, 3) := by decide +kernel
theorem dX1_init_19 : decode cX1_init 19 = .ok (.dup, 1) := by decide +kernel
theorem dX1_init_20 : decode cX1_init 20 = .ok (.invokespecial 11, 3) := by decide +kernel
theorem dX1_init_23 : decode cX1_init 23 = .ok (.putfield 18, 3) := by decide +kernel
theorem dX1_init_26 : decode cX1_init 26 = .ok (.aload_n 0, 1) := by decide +kernel
theorem dX1_init_27 : decode cX1_init 27 = .ok (.bipush 9, 2) := by decide +kernel
theorem dX1_init_29 : decode cX1_init 29 = .ok (.bipush 9, 2) := by decide +kernel
theorem dX1_init_31 : decode cX1_init 31 = .ok (.multianewarray 21 2, 4) := by decide +kernel
theorem dX1_init_35 : decode cX1_init 35 = .ok (.putfield 23, 3) := by decide +kernel
theorem dX1_init_38 : decode cX1_init 38 = .ok (.aload_n 0, 1) := by decide +kernel
theorem dX1_init_39 : decode cX1_init 39 = .ok (.bipush 16, 2) := by decide +kernel
theorem dX1_init_41 : decode cX1_init 41 = .ok (.newarray .int, 2) := by decide +kernel
theorem dX1_init_43 : decode cX1_init 43 = .ok (.putfield 26, 3) := by decide +kernel
theorem dX1_init_46 : decode cX1_init 46 = .ok (.return_, 1) := by decide +kernel
theorem dX1_between_0 : decode cX1_between 0 = .ok (.aload_n 1, 1) := by decide +kernel
theorem dX1_between_1 : decode cX1_between 1 = .ok (.getfield 30, 3) := by decide +kernel
theorem dX1_between_4 : decode cX1_between 4 = .ok (.iload_n 2, 1) := by decide +kernel
theorem dX1_between_5 : decode cX1_between 5 = .ok (.aload_n 0, 1) := by decide +kernel
theorem dX1_between_6 : decode cX1_between 6 = .ok (.getfield 12, 3) := by decide +kernel
theorem dX1_between_9 : decode cX1_between 9 = .ok (.invokevirtual 36, 3) := by decide +kernel
theorem dX1_between_12 : decode cX1_between 12 = .ok (.aload_n 1, 1) := by decide +kernel
theorem dX1_between_13 : decode cX1_between 13 = .ok (.getfield 30, 3) := by decide +kernel
theorem dX1_between_16 : decode cX1_between 16 = .ok (.iload_n 3, 1) := by decide +kernel
theorem dX1_between_17 : decode cX1_between 17 = .ok (.aload_n 0, 1) := by decide +kernel
theorem dX1_between_18 : decode cX1_between 18 = .ok (.getfield 18, 3) := by decide +kernel
theorem dX1_between_21 : decode cX1_between 21 = .ok (.invokevirtual 36, 3) := by decide +kernel
theorem dX1_between_24 : decode cX1_between 24 = .ok (.aload_n 0, 1) := by decide +kernel
theorem dX1_between_25 : decode cX1_between 25 = .ok (.aload_n 1, 1) := by decide +kernel
theorem dX1_between_26 : decode cX1_between 26 = .ok (.getfield 42, 3) := by decide +kernel
theorem dX1_between_29 : decode cX1_between 29 = .ok (.invokevirtual 45, 3) := by decide +kernel
theorem dX1_between_32 : decode cX1_between 32 = .ok (.ireturn, 1) := by decide +kernel
theorem dX1_measure_0 : decode cX1_measure 0 = .ok (.iconst 0, 1) := by decide +kernel
theorem dX1_measure_1 : decode cX1_measure 1 = .ok (.istore_n 2, 1) := by decide +kernel
theorem dX1_measure_2 : decode cX1_measure 2 = .ok (.iload_n 2, 1) := by decide +kernel
theorem dX1_measure_3 : decode cX1_measure 3 = .ok (.aload_n 0, 1) := by decide +kernel
theorem dX1_measure_4 : decode cX1_measure 4 = .ok (.getfield 12, 3) := by decide +kernel
theorem dX1_measure_7 : decode cX1_measure 7 = .ok (.getfield 49, 3) := by decide +kernel
theorem dX1_measure_10 : decode cX1_measure 10 = .ok (.if_icmp .gt 85, 3) := by decide +kernel
theorem dX1_measure_13 : decode cX1_measure 13 = .ok (.iconst 0, 1) := by decide +kernel
theorem dX1_measure_14 : decode cX1_measure 14 = .ok (.istore_n 3, 1) := by decide +kernel
theorem dX1_measure_15 : decode cX1_measure 15 = .ok (.iload_n 3, 1) := by decide +kernel
theorem dX1_measure_16 : decode cX1_measure 16 = .ok (.aload_n 0, 1) := by decide +kernel
theorem dX1_measure_17 : decode cX1_measure 17 = .ok (.getfield 18, 3) := by decide +kernel
theorem dX1_measure_20 : decode cX1_measure 20 = .ok (.getfield 49, 3) := by decide +kernel
theorem dX1_measure_23 : decode cX1_measure 23 = .ok (.if_icmp .gt 66, 3) := by decide +kernel
theorem dX1_measure_26 : decode cX1_measure 26 = .ok (.iload_n 2, 1) := by decide +kernel
theorem dX1_measure_27 : decode cX1_measure 27 = .ok (.ifCond .ne 11, 3) := by decide +kernel
theorem dX1_measure_30 : decode cX1_measure 30 = .ok (.iload_n 3, 1) := by decide +kernel
theorem dX1_measure_31 : decode cX1_measure 31 = .ok (.ifCond .ne 7, 3) := by decide +kernel
theorem dX1_measure_34 : decode cX1_measure 34 = .ok (.iconst 0, 1) := by decide +kernel
theorem dX1_measure_35 : decode cX1_measure 35 = .ok (.goto 5, 3) := by decide +kernel
theorem dX1_measure_38 : decode cX1_measure 38 = .ok (.ldc 53, 2) := by decide +kernel
theorem dX1_measure_40 : decode cX1_measure 40 = .ok (.istore 4, 2) := by decide +kernel
theorem dX1_measure_42 : decode cX1_measure 42 = .ok (.iconst 1, 1) := by decide +kernel
theorem dX1_measure_43 : decode cX1_measure 43 = .ok (.istore 5, 2) := by decide +kernel
theorem dX1_measure_45 : decode cX1_measure 45 = .ok (.iload 5, 2) := by decide +kernel
theorem dX1_measure_47 : decode cX1_measure 47 = .ok (.iconst 4, 1) := by decide +kernel
theorem dX1_measure_48 : decode cX1_measure 48 = .ok (.if_icmp .gt 25, 3) := by decide +kernel
theorem dX1_measure_51 : decode cX1_measure 51 = .ok (.iload 4, 2) := by decide +kernel
theorem dX1_measure_53 : decode cX1_measure 53 = .ok (.aload_n 0, 1) := by decide +kernel
theorem dX1_measure_54 : decode cX1_measure 54 = .ok (.iload 5, 2) := by decide +kernel
theorem dX1_measure_56 : decode cX1_measure 56 = .ok (.iload_n 2, 1) := by decide +kernel
theorem dX1_measure_57 : decode cX1_measure 57 = .ok (.iload_n 3, 1) := by decide +kernel
theorem dX1_measure_58 : decode cX1_measure 58 = .ok (.aload_n 1, 1) := by decide +kernel
theorem dX1_measure_59 : decode cX1_measure 59 = .ok (.invokevirtual 54, 3) := by decide +kernel
theorem dX1_measure_62 : decode cX1_measure 62 = .ok (.invokestatic 58, 3) := by decide +kernel
theorem dX1_measure_65 : decode cX1_measure 65 = .ok (.istore 4, 2) := by decide +kernel
theorem dX1_measure_67 : decode cX1_measure 67 = .ok (.iinc 5 1, 3) := by decide +kernel
theorem dX1_measure_70 : decode cX1_measure 70 = .ok (.goto (-25), 3) := by decide +kernel
theorem dX1_measure_73 : decode cX1_measure 73 = .ok (.aload_n 0, 1) := by decide +kernel
theorem dX1_measure_74 : decode cX1_measure 74 = .ok (.getfield 23, 3) := by decide +kernel
theorem dX1_measure_77 : decode cX1_measure 77 = .ok (.iload_n 2, 1) := by decide +kernel
theorem dX1_measure_78 : decode cX1_measure 78 = .ok (.aaload, 1) := by decide +kernel
theorem dX1_measure_79 : decode cX1_measure 79 = .ok (.iload_n 3, 1) := by decide +kernel
theorem dX1_measure_80 : decode cX1_measure 80 = .ok (.iload 4, 2) := by decide +kernel
theorem dX1_measure_82 : decode cX1_measure 82 = .ok (.iastore, 1) := by decide +kernel
theorem dX1_measure_83 : decode cX1_measure 83 = .ok (.iinc 3 1, 3) := by decide +kernel
theorem dX1_measure_86 : decode cX1_measure 86 = .ok (.goto (-71), 3) := by decide +kernel
theorem dX1_measure_89 : decode cX1_measure 89 = .ok (.iinc 2 1, 3) := by decide +kernel
theorem dX1_measure_92 : decode cX1_measure 92 = .ok (.goto (-90), 3) := by decide +kernel
theorem dX1_measure_95 : decode cX1_measure 95 = .ok (.aload_n 0, 1) := by decide +kernel
theorem dX1_measure_96 : decode cX1_measure 96 = .ok (.getfield 23, 3) := by decide +kernel
theorem dX1_measure_99 : decode cX1_measure 99 = .ok (.aload_n 0, 1) := by decide +kernel
theorem dX1_measure_100 : decode cX1_measure 100 = .ok (.getfield 12, 3) := by decide +kernel
theorem dX1_measure_103 : decode cX1_measure 103 = .ok (.getfield 49, 3) := by decide +kernel
theorem dX1_measure_106 : decode cX1_measure 106 = .ok (.aaload, 1) := by decide +kernel
theorem dX1_measure_107 : decode cX1_measure 107 = .ok (.aload_n 0, 1) := by decide +kernel
theorem dX1_measure_108 : decode cX1_measure 108 = .ok (.getfield 18, 3) := by decide +kernel
theorem dX1_measure_111 : decode cX1_measure 111 = .ok (.getfield 49, 3) := by decide +kernel
theorem dX1_measure_114 : decode cX1_measure 114 = .ok (.iaload, 1) := by decide +kernel
theorem dX1_measure_115 : decode cX1_measure 115 = .ok (.ireturn, 1) := by decide +kernel
theorem dX1_by_0 : decode cX1_by 0 = .ok (.iload_n 1, 1) := by decide +kernel
theorem dX1_by_1 : decode cX1_by 1 = .ok (.tableswitch 116 1 3 #[27, 64, 90], 27) := by decide +kernel
theorem dX1_by_28 : decode cX1_by 28 = .ok (.iload_n 2, 1) := by decide +kernel
theorem dX1_by_29 : decode cX1_by 29 = .ok (.iconst 1, 1) := by decide +kernel
theorem dX1_by_30 : decode cX1_by 30 = .ok (.if_icmp .lt 32, 3) := by decide +kernel
theorem dX1_by_33 : decode cX1_by 33 = .ok (.iload_n 3, 1) := by decide +kernel
theorem dX1_by_34 : decode cX1_by 34 = .ok (.iconst 1, 1) := by decide +kernel
theorem dX1_by_35 : decode cX1_by 35 = .ok (.if_icmp .lt 27, 3) := by decide +kernel
theorem dX1_by_38 : decode cX1_by 38 = .ok (.aload_n 0, 1) := by decide +kernel
theorem dX1_by_39 : decode cX1_by 39 = .ok (.getfield 23, 3) := by decide +kernel
theorem dX1_by_42 : decode cX1_by 42 = .ok (.iload_n 2, 1) := by decide +kernel
theorem dX1_by_43 : decode cX1_by 43 = .ok (.iconst 1, 1) := by decide +kernel
theorem dX1_by_44 : decode cX1_by 44 = .ok (.isub, 1) := by decide +kernel
theorem dX1_by_45 : decode cX1_by 45 = .ok (.aaload, 1) := by decide +kernel
theorem dX1_by_46 : decode cX1_by 46 = .ok (.iload_n 3, 1) := by decide +kernel
theorem dX1_by_47 : decode cX1_by 47 = .ok (.iconst 1, 1) := by decide +kernel
theorem dX1_by_48 : decode cX1_by 48 = .ok (.isub, 1) := by decide +kernel
theorem dX1_by_49 : decode cX1_by 49 = .ok (.iaload, 1) := by decide +kernel
theorem dX1_by_50 : decode cX1_by 50 = .ok (.aload_n 0, 1) := by decide +kernel
theorem dX1_by_51 : decode cX1_by 51 = .ok (.iload_n 2, 1) := by decide +kernel
theorem dX1_by_52 : decode cX1_by 52 = .ok (.iload_n 3, 1) := by decide +kernel
theorem dX1_by_53 : decode cX1_by 53 = .ok (.aload 4, 2) := by decide +kernel
theorem dX1_by_55 : decode cX1_by 55 = .ok (.invokevirtual 64, 3) := by decide +kernel
theorem dX1_by_58 : decode cX1_by 58 = .ok (.iadd, 1) := by decide +kernel
theorem dX1_by_59 : decode cX1_by 59 = .ok (.goto 5, 3) := by decide +kernel
theorem dX1_by_62 : decode cX1_by 62 = .ok (.ldc 53, 2) := by decide +kernel
theorem dX1_by_64 : decode cX1_by 64 = .ok (.ireturn, 1) := by decide +kernel
theorem dX1_by_65 : decode cX1_by 65 = .ok (.iload_n 2, 1) := by decide +kernel
theorem dX1_by_66 : decode cX1_by 66 = .ok (.iconst 1, 1) := by decide +kernel
theorem dX1_by_67 : decode cX1_by 67 = .ok (.if_icmp .lt 21, 3) := by decide +kernel
theorem dX1_by_70 : decode cX1_by 70 = .ok (.aload_n 0, 1) := by decide +kernel
theorem dX1_by_71 : decode cX1_by 71 = .ok (.getfield 23, 3) := by decide +kernel
theorem dX1_by_74 : decode cX1_by 74 = .ok (.iload_n 2, 1) := by decide +kernel
theorem dX1_by_75 : decode cX1_by 75 = .ok (.iconst 1, 1) := by decide +kernel
theorem dX1_by_76 : decode cX1_by 76 = .ok (.isub, 1) := by decide +kernel
theorem dX1_by_77 : decode cX1_by 77 = .ok (.aaload, 1) := by decide +kernel
theorem dX1_by_78 : decode cX1_by 78 = .ok (.iload_n 3, 1) := by decide +kernel
theorem dX1_by_79 : decode cX1_by 79 = .ok (.iaload, 1) := by decide +kernel
theorem dX1_by_80 : decode cX1_by 80 = .ok (.aload 4, 2) := by decide +kernel
theorem dX1_by_82 : decode cX1_by 82 = .ok (.iconst 0, 1) := by decide +kernel
theorem dX1_by_83 : decode cX1_by 83 = .ok (.iaload, 1) := by decide +kernel
theorem dX1_by_84 : decode cX1_by 84 = .ok (.iadd, 1) := by decide +kernel
theorem dX1_by_85 : decode cX1_by 85 = .ok (.goto 5, 3) := by decide +kernel
theorem dX1_by_88 : decode cX1_by 88 = .ok (.ldc 53, 2) := by decide +kernel
theorem dX1_by_90 : decode cX1_by 90 = .ok (.ireturn, 1) := by decide +kernel
theorem dX1_by_91 : decode cX1_by 91 = .ok (.iload_n 3, 1) := by decide +kernel
theorem dX1_by_92 : decode cX1_by 92 = .ok (.iconst 1, 1) := by decide +kernel
theorem dX1_by_93 : decode cX1_by 93 = .ok (.if_icmp .lt 21, 3) := by decide +kernel
theorem dX1_by_96 : decode cX1_by 96 = .ok (.aload_n 0, 1) := by decide +kernel
theorem dX1_by_97 : decode cX1_by 97 = .ok (.getfield 23, 3) := by decide +kernel
theorem dX1_by_100 : decode cX1_by 100 = .ok (.iload_n 2, 1) := by decide +kernel
theorem dX1_by_101 : decode cX1_by 101 = .ok (.aaload, 1) := by decide +kernel
theorem dX1_by_102 : decode cX1_by 102 = .ok (.iload_n 3, 1) := by decide +kernel
theorem dX1_by_103 : decode cX1_by 103 = .ok (.iconst 1, 1) := by decide +kernel
theorem dX1_by_104 : decode cX1_by 104 = .ok (.isub, 1) := by decide +kernel
theorem dX1_by_105 : decode cX1_by 105 = .ok (.iaload, 1) := by decide +kernel
theorem dX1_by_106 : decode cX1_by 106 = .ok (.aload 4, 2) := by decide +kernel
theorem dX1_by_108 : decode cX1_by 108 = .ok (.iconst 0, 1) := by decide +kernel
theorem dX1_by_109 : decode cX1_by 109 = .ok (.iaload, 1) := by decide +kernel
theorem dX1_by_110 : decode cX1_by 110 = .ok (.iadd, 1) := by decide +kernel
theorem dX1_by_111 : decode cX1_by 111 = .ok (.goto 5, 3) := by decide +kernel
theorem dX1_by_114 : decode cX1_by 114 = .ok (.ldc 53, 2) := by decide +kernel
theorem dX1_by_116 : decode cX1_by 116 = .ok (.ireturn, 1) := by decide +kernel
theorem dX1_by_117 : decode cX1_by 117 = .ok (.aload_n 0, 1) := by decide +kernel
theorem dX1_by_118 : decode cX1_by 118 = .ok (.iload_n 2, 1) := by decide +kernel
theorem dX1_by_119 : decode cX1_by 119 = .ok (.iload_n 3, 1) := by decide +kernel
theorem dX1_by_120 : decode cX1_by 120 = .ok (.invokevirtual 68, 3) := by decide +kernel
theorem dX1_by_123 : decode cX1_by 123 = .ok (.ifCond .eq 23, 3) := by decide +kernel
theorem dX1_by_126 : decode cX1_by 126 = .ok (.aload_n 0, 1) := by decide +kernel
theorem dX1_by_127 : decode cX1_by 127 = .ok (.getfield 23, 3) := by decide +kernel
theorem dX1_by_130 : decode cX1_by 130 = .ok (.iload_n 2, 1) := by decide +kernel
theorem dX1_by_131 : decode cX1_by 131 = .ok (.iconst 2, 1) := by decide +kernel
theorem dX1_by_132 : decode cX1_by 132 = .ok (.isub, 1) := by decide +kernel
theorem dX1_by_133 : decode cX1_by 133 = .ok (.aaload, 1) := by decide +kernel
theorem dX1_by_134 : decode cX1_by 134 = .ok (.iload_n 3, 1) := by decide +kernel
theorem dX1_by_135 : decode cX1_by 135 = .ok (.iconst 2, 1) := by decide +kernel
theorem dX1_by_136 : decode cX1_by 136 = .ok (.isub, 1) := by decide +kernel
theorem dX1_by_137 : decode cX1_by 137 = .ok (.iaload, 1) := by decide +kernel
theorem dX1_by_138 : decode cX1_by 138 = .ok (.aload 4, 2) := by decide +kernel
theorem dX1_by_140 : decode cX1_by 140 = .ok (.iconst 3, 1) := by decide +kernel
theorem dX1_by_141 : decode cX1_by 141 = .ok (.iaload, 1) := by decide +kernel
theorem dX1_by_142 : decode cX1_by 142 = .ok (.iadd, 1) := by decide +kernel
theorem dX1_by_143 : decode cX1_by 143 = .ok (.goto 5, 3) := by decide +kernel
theorem dX1_by_146 : decode cX1_by 146 = .ok (.ldc 53, 2) := by decide +kernel
theorem dX1_by_148 : decode cX1_by 148 = .ok (.ireturn, 1) := by decide +kernel
theorem dX1_replacing_0 : decode cX1_replacing 0 = .ok (.aload_n 0, 1) := by decide +kernel
theorem dX1_replacing_1 : decode cX1_replacing 1 = .ok (.getfield 12, 3) := by decide +kernel
theorem dX1_replacing_4 : decode cX1_replacing 4 = .ok (.iload_n 1, 1) := by decide +kernel
theorem dX1_replacing_5 : decode cX1_replacing 5 = .ok (.iconst 1, 1) := by decide +kernel
theorem dX1_replacing_6 : decode cX1_replacing 6 = .ok (.isub, 1) := by decide +kernel
theorem dX1_replacing_7 : decode cX1_replacing 7 = .ok (.invokevirtual 72, 3) := by decide +kernel
theorem dX1_replacing_10 : decode cX1_replacing 10 = .ok (.istore 4, 2) := by decide +kernel
theorem dX1_replacing_12 : decode cX1_replacing 12 = .ok (.aload_n 0, 1) := by decide +kernel
theorem dX1_replacing_13 : decode cX1_replacing 13 = .ok (.getfield 18, 3) := by decide +kernel
theorem dX1_replacing_16 : decode cX1_replacing 16 = .ok (.iload_n 2, 1) := by decide +kernel
theorem dX1_replacing_17 : decode cX1_replacing 17 = .ok (.iconst 1, 1) := by decide +kernel
theorem dX1_replacing_18 : decode cX1_replacing 18 = .ok (.isub, 1) := by decide +kernel
theorem dX1_replacing_19 : decode cX1_replacing 19 = .ok (.invokevirtual 72, 3) := by decide +kernel
theorem dX1_replacing_22 : decode cX1_replacing 22 = .ok (.istore 5, 2) := by decide +kernel
theorem dX1_replacing_24 : decode cX1_replacing 24 = .ok (.iload 4, 2) := by decide +kernel
theorem dX1_replacing_26 : decode cX1_replacing 26 = .ok (.iload 5, 2) := by decide +kernel
theorem dX1_replacing_28 : decode cX1_replacing 28 = .ok (.if_icmp .ne 5, 3) := by decide +kernel
theorem dX1_replacing_31 : decode cX1_replacing 31 = .ok (.iconst 0, 1) := by decide +kernel
theorem dX1_replacing_32 : decode cX1_replacing 32 = .ok (.ireturn, 1) := by decide +kernel
theorem dX1_replacing_33 : decode cX1_replacing 33 = .ok (.iload 4, 2) := by decide +kernel
theorem dX1_replacing_35 : decode cX1_replacing 35 = .ok (.iconst 4, 1) := by decide +kernel
theorem dX1_replacing_36 : decode cX1_replacing 36 = .ok (.idiv, 1) := by decide +kernel
theorem dX1_replacing_37 : decode cX1_replacing 37 = .ok (.iload 5, 2) := by decide +kernel
theorem dX1_replacing_39 : decode cX1_replacing 39 = .ok (.iconst 4, 1) := by decide +kernel
theorem dX1_replacing_40 : decode cX1_replacing 40 = .ok (.idiv, 1) := by decide +kernel
theorem dX1_replacing_41 : decode cX1_replacing 41 = .ok (.if_icmp .ne 7, 3) := by decide +kernel
theorem dX1_replacing_44 : decode cX1_replacing 44 = .ok (.iconst 1, 1) := by decide +kernel
theorem dX1_replacing_45 : decode cX1_replacing 45 = .ok (.goto 4, 3) := by decide +kernel
theorem dX1_replacing_48 : decode cX1_replacing 48 = .ok (.iconst 0, 1) := by decide +kernel
theorem dX1_replacing_49 : decode cX1_replacing 49 = .ok (.istore 6, 2) := by decide +kernel
theorem dX1_replacing_51 : decode cX1_replacing 51 = .ok (.iload 6, 2) := by decide +kernel
theorem dX1_replacing_53 : decode cX1_replacing 53 = .ok (.ifCond .eq 9, 3) := by decide +kernel
theorem dX1_replacing_56 : decode cX1_replacing 56 = .ok (.aload_n 3, 1) := by decide +kernel
theorem dX1_replacing_57 : decode cX1_replacing 57 = .ok (.iconst 2, 1) := by decide +kernel
theorem dX1_replacing_58 : decode cX1_replacing 58 = .ok (.iaload, 1) := by decide +kernel
theorem dX1_replacing_59 : decode cX1_replacing 59 = .ok (.goto 6, 3) := by decide +kernel
theorem dX1_replacing_62 : decode cX1_replacing 62 = .ok (.aload_n 3, 1) := by decide +kernel
theorem dX1_replacing_63 : decode cX1_replacing 63 = .ok (.iconst 1, 1) := by decide +kernel
theorem dX1_replacing_64 : decode cX1_replacing 64 = .ok (.iaload, 1) := by decide +kernel
theorem dX1_replacing_65 : decode cX1_replacing 65 = .ok (.ireturn, 1) := by decide +kernel
theorem dX1_swaps_0 : decode cX1_swaps 0 = .ok (.iload_n 1, 1) := by decide +kernel
theorem dX1_swaps_1 : decode cX1_swaps 1 = .ok (.iconst 2, 1) := by decide +kernel
theorem dX1_swaps_2 : decode cX1_swaps 2 = .ok (.if_icmp .lt 58, 3) := by decide +kernel
theorem dX1_swaps_5 : decode cX1_swaps 5 = .ok (.iload_n 2, 1) := by decide +kernel
theorem dX1_swaps_6 : decode cX1_swaps 6 = .ok (.iconst 2, 1) := by decide +kernel
theorem dX1_swaps_7 : decode cX1_swaps 7 = .ok (.if_icmp .lt 53, 3) := by decide +kernel
theorem dX1_swaps_10 : decode cX1_swaps 10 = .ok (.aload_n 0, 1) := by decide +kernel
theorem dX1_swaps_11 : decode cX1_swaps 11 = .ok (.getfield 12, 3) := by decide +kernel
theorem dX1_swaps_14 : decode cX1_swaps 14 = .ok (.iload_n 1, 1) := by decide +kernel
theorem dX1_swaps_15 : decode cX1_swaps 15 = .ok (.iconst 1, 1) := by decide +kernel
theorem dX1_swaps_16 : decode cX1_swaps 16 = .ok (.isub, 1) := by decide +kernel
theorem dX1_swaps_17 : decode cX1_swaps 17 = .ok (.invokevirtual 72, 3) := by decide +kernel
theorem dX1_swaps_20 : decode cX1_swaps 20 = .ok (.aload_n 0, 1) := by decide +kernel
theorem dX1_swaps_21 : decode cX1_swaps 21 = .ok (.getfield 18, 3) := by decide +kernel
theorem dX1_swaps_24 : decode cX1_swaps 24 = .ok (.iload_n 2, 1) := by decide +kernel
theorem dX1_swaps_25 : decode cX1_swaps 25 = .ok (.iconst 2, 1) := by decide +kernel
theorem dX1_swaps_26 : decode cX1_swaps 26 = .ok (.isub, 1) := by decide +kernel
theorem dX1_swaps_27 : decode cX1_swaps 27 = .ok (.invokevirtual 72, 3) := by decide +kernel
theorem dX1_swaps_30 : decode cX1_swaps 30 = .ok (.if_icmp .ne 30, 3) := by decide +kernel
theorem dX1_swaps_33 : decode cX1_swaps 33 = .ok (.aload_n 0, 1) := by decide +kernel
theorem dX1_swaps_34 : decode cX1_swaps 34 = .ok (.getfield 12, 3) := by decide +kernel
theorem dX1_swaps_37 : decode cX1_swaps 37 = .ok (.iload_n 1, 1) := by decide +kernel
theorem dX1_swaps_38 : decode cX1_swaps 38 = .ok (.iconst 2, 1) := by decide +kernel
theorem dX1_swaps_39 : decode cX1_swaps 39 = .ok (.isub, 1) := by decide +kernel
theorem dX1_swaps_40 : decode cX1_swaps 40 = .ok (.invokevirtual 72, 3) := by decide +kernel
theorem dX1_swaps_43 : decode cX1_swaps 43 = .ok (.aload_n 0, 1) := by decide +kernel
theorem dX1_swaps_44 : decode cX1_swaps 44 = .ok (.getfield 18, 3) := by decide +kernel
theorem dX1_swaps_47 : decode cX1_swaps 47 = .ok (.iload_n 2, 1) := by decide +kernel
theorem dX1_swaps_48 : decode cX1_swaps 48 = .ok (.iconst 1, 1) := by decide +kernel
theorem dX1_swaps_49 : decode cX1_swaps 49 = .ok (.isub, 1) := by decide +kernel
theorem dX1_swaps_50 : decode cX1_swaps 50 = .ok (.invokevirtual 72, 3) := by decide +kernel
theorem dX1_swaps_53 : decode cX1_swaps 53 = .ok (.if_icmp .ne 7, 3) := by decide +kernel
theorem dX1_swaps_56 : decode cX1_swaps 56 = .ok (.iconst 1, 1) := by decide +kernel
theorem dX1_swaps_57 : decode cX1_swaps 57 = .ok (.goto 4, 3) := by decide +kernel
theorem dX1_swaps_60 : decode cX1_swaps 60 = .ok (.iconst 0, 1) := by decide +kernel
theorem dX1_swaps_61 : decode cX1_swaps 61 = .ok (.ireturn, 1) := by decide +kernel
theorem dX1_trace_0 : decode cX1_trace 0 = .ok (.aload_n 0, 1) := by decide +kernel
theorem dX1_trace_1 : decode cX1_trace 1 = .ok (.iconst 0, 1) := by decide +kernel
theorem dX1_trace_2 : decode cX1_trace 2 = .ok (.putfield 76, 3) := by decide +kernel
theorem dX1_trace_5 : decode cX1_trace 5 = .ok (.aload_n 0, 1) := by decide +kernel
theorem dX1_trace_6 : decode cX1_trace 6 = .ok (.getfield 12, 3) := by decide +kernel
theorem dX1_trace_9 : decode cX1_trace 9 = .ok (.getfield 49, 3) := by decide +kernel
theorem dX1_trace_12 : decode cX1_trace 12 = .ok (.istore_n 2, 1) := by decide +kernel
theorem dX1_trace_13 : decode cX1_trace 13 = .ok (.aload_n 0, 1) := by decide +kernel
theorem dX1_trace_14 : decode cX1_trace 14 = .ok (.getfield 18, 3) := by decide +kernel
theorem dX1_trace_17 : decode cX1_trace 17 = .ok (.getfield 49, 3) := by decide +kernel
theorem dX1_trace_20 : decode cX1_trace 20 = .ok (.istore_n 3, 1) := by decide +kernel
theorem dX1_trace_21 : decode cX1_trace 21 = .ok (.iconst 0, 1) := by decide +kernel
theorem dX1_trace_22 : decode cX1_trace 22 = .ok (.istore 4, 2) := by decide +kernel
theorem dX1_trace_24 : decode cX1_trace 24 = .ok (.iload 4, 2) := by decide +kernel
theorem dX1_trace_26 : decode cX1_trace 26 = .ok (.aload_n 0, 1) := by decide +kernel
theorem dX1_trace_27 : decode cX1_trace 27 = .ok (.getfield 26, 3) := by decide +kernel
theorem dX1_trace_30 : decode cX1_trace 30 = .ok (.arraylength, 1) := by decide +kernel
theorem dX1_trace_31 : decode cX1_trace 31 = .ok (.if_icmp .ge 156, 3) := by decide +kernel
theorem dX1_trace_34 : decode cX1_trace 34 = .ok (.iload_n 2, 1) := by decide +kernel
theorem dX1_trace_35 : decode cX1_trace 35 = .ok (.iload_n 3, 1) := by decide +kernel
theorem dX1_trace_36 : decode cX1_trace 36 = .ok (.iadd, 1) := by decide +kernel
theorem dX1_trace_37 : decode cX1_trace 37 = .ok (.ifCond .le 150, 3) := by decide +kernel
theorem dX1_trace_40 : decode cX1_trace 40 = .ok (.aload_n 0, 1) := by decide +kernel
theorem dX1_trace_41 : decode cX1_trace 41 = .ok (.iload_n 2, 1) := by decide +kernel
theorem dX1_trace_42 : decode cX1_trace 42 = .ok (.iload_n 3, 1) := by decide +kernel
theorem dX1_trace_43 : decode cX1_trace 43 = .ok (.aload_n 1, 1) := by decide +kernel
theorem dX1_trace_44 : decode cX1_trace 44 = .ok (.invokevirtual 79, 3) := by decide +kernel
theorem dX1_trace_47 : decode cX1_trace 47 = .ok (.istore 5, 2) := by decide +kernel
theorem dX1_trace_49 : decode cX1_trace 49 = .ok (.iload 5, 2) := by decide +kernel
theorem dX1_trace_51 : decode cX1_trace 51 = .ok (.iconst 1, 1) := by decide +kernel
theorem dX1_trace_52 : decode cX1_trace 52 = .ok (.if_icmp .ne 30, 3) := by decide +kernel
theorem dX1_trace_55 : decode cX1_trace 55 = .ok (.aload_n 0, 1) := by decide +kernel
theorem dX1_trace_56 : decode cX1_trace 56 = .ok (.getfield 12, 3) := by decide +kernel
theorem dX1_trace_59 : decode cX1_trace 59 = .ok (.iload_n 2, 1) := by decide +kernel
theorem dX1_trace_60 : decode cX1_trace 60 = .ok (.iconst 1, 1) := by decide +kernel
theorem dX1_trace_61 : decode cX1_trace 61 = .ok (.isub, 1) := by decide +kernel
theorem dX1_trace_62 : decode cX1_trace 62 = .ok (.invokevirtual 72, 3) := by decide +kernel
theorem dX1_trace_65 : decode cX1_trace 65 = .ok (.aload_n 0, 1) := by decide +kernel
theorem dX1_trace_66 : decode cX1_trace 66 = .ok (.getfield 18, 3) := by decide +kernel
theorem dX1_trace_69 : decode cX1_trace 69 = .ok (.iload_n 3, 1) := by decide +kernel
theorem dX1_trace_70 : decode cX1_trace 70 = .ok (.iconst 1, 1) := by decide +kernel
theorem dX1_trace_71 : decode cX1_trace 71 = .ok (.isub, 1) := by decide +kernel
theorem dX1_trace_72 : decode cX1_trace 72 = .ok (.invokevirtual 72, 3) := by decide +kernel
theorem dX1_trace_75 : decode cX1_trace 75 = .ok (.if_icmp .ne 7, 3) := by decide +kernel
theorem dX1_trace_78 : decode cX1_trace 78 = .ok (.iconst 1, 1) := by decide +kernel
theorem dX1_trace_79 : decode cX1_trace 79 = .ok (.goto 4, 3) := by decide +kernel
theorem dX1_trace_82 : decode cX1_trace 82 = .ok (.iconst 0, 1) := by decide +kernel
theorem dX1_trace_83 : decode cX1_trace 83 = .ok (.istore 6, 2) := by decide +kernel
theorem dX1_trace_85 : decode cX1_trace 85 = .ok (.iload_n 2, 1) := by decide +kernel
theorem dX1_trace_86 : decode cX1_trace 86 = .ok (.iload 5, 2) := by decide +kernel
theorem dX1_trace_88 : decode cX1_trace 88 = .ok (.iconst 3, 1) := by decide +kernel
theorem dX1_trace_89 : decode cX1_trace 89 = .ok (.if_icmp .ne 7, 3) := by decide +kernel
theorem dX1_trace_92 : decode cX1_trace 92 = .ok (.iconst 0, 1) := by decide +kernel
theorem dX1_trace_93 : decode cX1_trace 93 = .ok (.goto 14, 3) := by decide +kernel
theorem dX1_trace_96 : decode cX1_trace 96 = .ok (.iload 5, 2) := by decide +kernel
theorem dX1_trace_98 : decode cX1_trace 98 = .ok (.iconst 4, 1) := by decide +kernel
theorem dX1_trace_99 : decode cX1_trace 99 = .ok (.if_icmp .ne 7, 3) := by decide +kernel
theorem dX1_trace_102 : decode cX1_trace 102 = .ok (.iconst 2, 1) := by decide +kernel
theorem dX1_trace_103 : decode cX1_trace 103 = .ok (.goto 4, 3) := by decide +kernel
theorem dX1_trace_106 : decode cX1_trace 106 = .ok (.iconst 1, 1) := by decide +kernel
theorem dX1_trace_107 : decode cX1_trace 107 = .ok (.isub, 1) := by decide +kernel
theorem dX1_trace_108 : decode cX1_trace 108 = .ok (.istore_n 2, 1) := by decide +kernel
theorem dX1_trace_109 : decode cX1_trace 109 = .ok (.iload_n 3, 1) := by decide +kernel
theorem dX1_trace_110 : decode cX1_trace 110 = .ok (.iload 5, 2) := by decide +kernel
theorem dX1_trace_112 : decode cX1_trace 112 = .ok (.iconst 2, 1) := by decide +kernel
theorem dX1_trace_113 : decode cX1_trace 113 = .ok (.if_icmp .ne 7, 3) := by decide +kernel
theorem dX1_trace_116 : decode cX1_trace 116 = .ok (.iconst 0, 1) := by decide +kernel
theorem dX1_trace_117 : decode cX1_trace 117 = .ok (.goto 14, 3) := by decide +kernel
theorem dX1_trace_120 : decode cX1_trace 120 = .ok (.iload 5, 2) := by decide +kernel
theorem dX1_trace_122 : decode cX1_trace 122 = .ok (.iconst 4, 1) := by decide +kernel
theorem dX1_trace_123 : decode cX1_trace 123 = .ok (.if_icmp .ne 7, 3) := by decide +kernel
theorem dX1_trace_126 : decode cX1_trace 126 = .ok (.iconst 2, 1) := by decide +kernel
theorem dX1_trace_127 : decode cX1_trace 127 = .ok (.goto 4, 3) := by decide +kernel
theorem dX1_trace_130 : decode cX1_trace 130 = .ok (.iconst 1, 1) := by decide +kernel
theorem dX1_trace_131 : decode cX1_trace 131 = .ok (.isub, 1) := by decide +kernel
theorem dX1_trace_132 : decode cX1_trace 132 = .ok (.istore_n 3, 1) := by decide +kernel
theorem dX1_trace_133 : decode cX1_trace 133 = .ok (.iload 6, 2) := by decide +kernel
theorem dX1_trace_135 : decode cX1_trace 135 = .ok (.ifCond .ne 46, 3) := by decide +kernel
theorem dX1_trace_138 : decode cX1_trace 138 = .ok (.aload_n 0, 1) := by decide +kernel
theorem dX1_trace_139 : decode cX1_trace 139 = .ok (.getfield 76, 3) := by decide +kernel
theorem dX1_trace_142 : decode cX1_trace 142 = .ok (.aload_n 0, 1) := by decide +kernel
theorem dX1_trace_143 : decode cX1_trace 143 = .ok (.getfield 26, 3) := by decide +kernel
theorem dX1_trace_146 : decode cX1_trace 146 = .ok (.arraylength, 1) := by decide +kernel
theorem dX1_trace_147 : decode cX1_trace 147 = .ok (.if_icmp .ge 34, 3) := by decide +kernel
theorem dX1_trace_150 : decode cX1_trace 150 = .ok (.aload_n 0, 1) := by decide +kernel
theorem dX1_trace_151 : decode cX1_trace 151 = .ok (.getfield 26, 3) := by decide +kernel
theorem dX1_trace_154 : decode cX1_trace 154 = .ok (.aload_n 0, 1) := by decide +kernel
theorem dX1_trace_155 : decode cX1_trace 155 = .ok (.getfield 76, 3) := by decide +kernel
theorem dX1_trace_158 : decode cX1_trace 158 = .ok (.bipush 100, 2) := by decide +kernel
theorem dX1_trace_160 : decode cX1_trace 160 = .ok (.iload 5, 2) := by decide +kernel
theorem dX1_trace_162 : decode cX1_trace 162 = .ok (.imul, 1) := by decide +kernel
theorem dX1_trace_163 : decode cX1_trace 163 = .ok (.bipush 10, 2) := by decide +kernel
theorem dX1_trace_165 : decode cX1_trace 165 = .ok (.iload_n 2, 1) := by decide +kernel
theorem dX1_trace_166 : decode cX1_trace 166 = .ok (.imul, 1) := by decide +kernel
theorem dX1_trace_167 : decode cX1_trace 167 = .ok (.iadd, 1) := by decide +kernel
theorem dX1_trace_168 : decode cX1_trace 168 = .ok (.iload_n 3, 1) := by decide +kernel
theorem dX1_trace_169 : decode cX1_trace 169 = .ok (.iadd, 1) := by decide +kernel
theorem dX1_trace_170 : decode cX1_trace 170 = .ok (.iastore, 1) := by decide +kernel
theorem dX1_trace_171 : decode cX1_trace 171 = .ok (.aload_n 0, 1) := by decide +kernel
theorem dX1_trace_172 : decode cX1_trace 172 = .ok (.dup, 1) := by decide +kernel
theorem dX1_trace_173 : decode cX1_trace 173 = .ok (.getfield 76, 3) := by decide +kernel
theorem dX1_trace_176 : decode cX1_trace 176 = .ok (.iconst 1, 1) := by decide +kernel
theorem dX1_trace_177 : decode cX1_trace 177 = .ok (.iadd, 1) := by decide +kernel
theorem dX1_trace_178 : decode cX1_trace 178 = .ok (.putfield 76, 3) := by decide +kernel
theorem dX1_trace_181 : decode cX1_trace 181 = .ok (.iinc 4 1, 3) := by decide +kernel
theorem dX1_trace_184 : decode cX1_trace 184 = .ok (.goto (-160), 3) := by decide +kernel
theorem dX1_trace_187 : decode cX1_trace 187 = .ok (.return_, 1) := by decide +kernel
theorem dX1_lastStep_0 : decode cX1_lastStep 0 = .ok (.iload_n 1, 1) := by decide +kernel
theorem dX1_lastStep_1 : decode cX1_lastStep 1 = .ok (.ifCond .lt 33, 3) := by decide +kernel
theorem dX1_lastStep_4 : decode cX1_lastStep 4 = .ok (.iload_n 1, 1) := by decide +kernel
theorem dX1_lastStep_5 : decode cX1_lastStep 5 = .ok (.aload_n 0, 1) := by decide +kernel
theorem dX1_lastStep_6 : decode cX1_lastStep 6 = .ok (.getfield 12, 3) := by decide +kernel
theorem dX1_lastStep_9 : decode cX1_lastStep 9 = .ok (.getfield 49, 3) := by decide +kernel
theorem dX1_lastStep_12 : decode cX1_lastStep 12 = .ok (.if_icmp .gt 22, 3) := by decide +kernel
theorem dX1_lastStep_15 : decode cX1_lastStep 15 = .ok (.iload_n 2, 1) := by decide +kernel
theorem dX1_lastStep_16 : decode cX1_lastStep 16 = .ok (.ifCond .lt 18, 3) := by decide +kernel
theorem dX1_lastStep_19 : decode cX1_lastStep 19 = .ok (.iload_n 2, 1) := by decide +kernel
theorem dX1_lastStep_20 : decode cX1_lastStep 20 = .ok (.aload_n 0, 1) := by decide +kernel
theorem dX1_lastStep_21 : decode cX1_lastStep 21 = .ok (.getfield 18, 3) := by decide +kernel
theorem dX1_lastStep_24 : decode cX1_lastStep 24 = .ok (.getfield 49, 3) := by decide +kernel
theorem dX1_lastStep_27 : decode cX1_lastStep 27 = .ok (.if_icmp .gt 7, 3) := by decide +kernel
theorem dX1_lastStep_30 : decode cX1_lastStep 30 = .ok (.iconst 1, 1) := by decide +kernel
theorem dX1_lastStep_31 : decode cX1_lastStep 31 = .ok (.goto 4, 3) := by decide +kernel
theorem dX1_lastStep_34 : decode cX1_lastStep 34 = .ok (.iconst 0, 1) := by decide +kernel
theorem dX1_lastStep_35 : decode cX1_lastStep 35 = .ok (.istore 4, 2) := by decide +kernel
theorem dX1_lastStep_37 : decode cX1_lastStep 37 = .ok (.iconst 1, 1) := by decide +kernel
theorem dX1_lastStep_38 : decode cX1_lastStep 38 = .ok (.istore 5, 2) := by decide +kernel
theorem dX1_lastStep_40 : decode cX1_lastStep 40 = .ok (.iload 4, 2) := by decide +kernel
theorem dX1_lastStep_42 : decode cX1_lastStep 42 = .ok (.ifCond .eq 38, 3) := by decide +kernel
theorem dX1_lastStep_45 : decode cX1_lastStep 45 = .ok (.iload 5, 2) := by decide +kernel
theorem dX1_lastStep_47 : decode cX1_lastStep 47 = .ok (.iconst 4, 1) := by decide +kernel
theorem dX1_lastStep_48 : decode cX1_lastStep 48 = .ok (.if_icmp .ge 32, 3) := by decide +kernel
theorem dX1_lastStep_51 : decode cX1_lastStep 51 = .ok (.aload_n 0, 1) := by decide +kernel
theorem dX1_lastStep_52 : decode cX1_lastStep 52 = .ok (.iload 5, 2) := by decide +kernel
theorem dX1_lastStep_54 : decode cX1_lastStep 54 = .ok (.iload_n 1, 1) := by decide +kernel
theorem dX1_lastStep_55 : decode cX1_lastStep 55 = .ok (.iload_n 2, 1) := by decide +kernel
theorem dX1_lastStep_56 : decode cX1_lastStep 56 = .ok (.aload_n 3, 1) := by decide +kernel
theorem dX1_lastStep_57 : decode cX1_lastStep 57 = .ok (.invokevirtual 54, 3) := by decide +kernel
theorem dX1_lastStep_60 : decode cX1_lastStep 60 = .ok (.aload_n 0, 1) := by decide +kernel
theorem dX1_lastStep_61 : decode cX1_lastStep 61 = .ok (.getfield 23, 3) := by decide +kernel
theorem dX1_lastStep_64 : decode cX1_lastStep 64 = .ok (.iload_n 1, 1) := by decide +kernel
theorem dX1_lastStep_65 : decode cX1_lastStep 65 = .ok (.aaload, 1) := by decide +kernel
theorem dX1_lastStep_66 : decode cX1_lastStep 66 = .ok (.iload_n 2, 1) := by decide +kernel
theorem dX1_lastStep_67 : decode cX1_lastStep 67 = .ok (.iaload, 1) := by decide +kernel
theorem dX1_lastStep_68 : decode cX1_lastStep 68 = .ok (.if_icmp .ne 6, 3) := by decide +kernel
theorem dX1_lastStep_71 : decode cX1_lastStep 71 = .ok (.iload 5, 2) := by decide +kernel
theorem dX1_lastStep_73 : decode cX1_lastStep 73 = .ok (.ireturn, 1) := by decide +kernel
theorem dX1_lastStep_74 : decode cX1_lastStep 74 = .ok (.iinc 5 1, 3) := by decide +kernel
theorem dX1_lastStep_77 : decode cX1_lastStep 77 = .ok (.goto (-37), 3) := by decide +kernel
theorem dX1_lastStep_80 : decode cX1_lastStep 80 = .ok (.iconst 4, 1) := by decide +kernel
theorem dX1_lastStep_81 : decode cX1_lastStep 81 = .ok (.ireturn, 1) := by decide +kernel
theorem dX1_fromBeginning_0 : decode cX1_fromBeginning 0 = .ok (.iload_n 1, 1) := by decide +kernel
theorem dX1_fromBeginning_1 : decode cX1_fromBeginning 1 = .ok (.ifCond .lt 27, 3) := by decide +kernel
theorem dX1_fromBeginning_4 : decode cX1_fromBeginning 4 = .ok (.iload_n 1, 1) := by decide +kernel
theorem dX1_fromBeginning_5 : decode cX1_fromBeginning 5 = .ok (.aload_n 0, 1) := by decide +kernel
theorem dX1_fromBeginning_6 : decode cX1_fromBeginning 6 = .ok (.getfield 76, 3) := by decide +kernel
theorem dX1_fromBeginning_9 : decode cX1_fromBeginning 9 = .ok (.if_icmp .ge 19, 3) := by decide +kernel
theorem dX1_fromBeginning_12 : decode cX1_fromBeginning 12 = .ok (.aload_n 0, 1) := by decide +kernel
theorem dX1_fromBeginning_13 : decode cX1_fromBeginning 13 = .ok (.getfield 26, 3) := by decide +kernel
theorem dX1_fromBeginning_16 : decode cX1_fromBeginning 16 = .ok (.aload_n 0, 1) := by decide +kernel
theorem dX1_fromBeginning_17 : decode cX1_fromBeginning 17 = .ok (.getfield 76, 3) := by decide +kernel
theorem dX1_fromBeginning_20 : decode cX1_fromBeginning 20 = .ok (.iconst 1, 1) := by decide +kernel
theorem dX1_fromBeginning_21 : decode cX1_fromBeginning 21 = .ok (.isub, 1) := by decide +kernel
theorem dX1_fromBeginning_22 : decode cX1_fromBeginning 22 = .ok (.iload_n 1, 1) := by decide +kernel
theorem dX1_fromBeginning_23 : decode cX1_fromBeginning 23 = .ok (.isub, 1) := by decide +kernel
theorem dX1_fromBeginning_24 : decode cX1_fromBeginning 24 = .ok (.iaload, 1) := by decide +kernel
theorem dX1_fromBeginning_25 : decode cX1_fromBeginning 25 = .ok (.goto 5, 3) := by decide +kernel
theorem dX1_fromBeginning_28 : decode cX1_fromBeginning 28 = .ok (.bipush (-4), 2) := by decide +kernel
theorem dX1_fromBeginning_30 : decode cX1_fromBeginning 30 = .ok (.ireturn, 1) := by decide +kernel
theorem dX2_init_0 : decode cX2_init 0 = .ok (.aload_n 0, 1) := by decide +kernel
theorem dX2_init_1 : decode cX2_init 1 = .ok (.invokespecial 3, 3) := by decide +kernel
theorem dX2_init_4 : decode cX2_init 4 = .ok (.aload_n 0, 1) := by decide +kernel
theorem dX2_init_5 : decode cX2_init 5 = .ok (.bipush 12, 2) := by decide +kernel
theorem dX2_init_7 : decode cX2_init 7 = .ok (.newarray .int, 2) := by decide +kernel
theorem dX2_init_9 : decode cX2_init 9 = .ok (.putfield 9, 3) := by decide +kernel
theorem dX2_init_12 : decode cX2_init 12 = .ok (.aload_n 0, 1) := by decide +kernel
theorem dX2_init_13 : decode cX2_init 13 = .ok (.bipush 12, 2) := by decide +kernel
theorem dX2_init_15 : decode cX2_init 15 = .ok (.newarray .int, 2) := by decide +kernel
theorem dX2_init_17 : decode cX2_init 17 = .ok (.putfield 15, 3) := by decide +kernel
theorem dX2_init_20 : decode cX2_init 20 = .ok (.aload_n 0, 1) := by decide +kernel
theorem dX2_init_21 : decode cX2_init 21 = .ok (.bipush 12, 2) := by decide +kernel
theorem dX2_init_23 : decode cX2_init 23 = .ok (.newarray .int, 2) := by decide +kernel
theorem dX2_init_25 : decode cX2_init 25 = .ok (.putfield 18, 3) := by decide +kernel
theorem dX2_init_28 : decode cX2_init 28 = .ok (.return_, 1) := by decide +kernel
theorem dX2_form_0 : decode cX2_form 0 = .ok (.aload_n 0, 1) := by decide +kernel
theorem dX2_form_1 : decode cX2_form 1 = .ok (.iconst 0, 1) := by decide +kernel
theorem dX2_form_2 : decode cX2_form 2 = .ok (.putfield 21, 3) := by decide +kernel
theorem dX2_form_5 : decode cX2_form 5 = .ok (.iconst 0, 1) := by decide +kernel
theorem dX2_form_6 : decode cX2_form 6 = .ok (.istore_n 3, 1) := by decide +kernel
theorem dX2_form_7 : decode cX2_form 7 = .ok (.iload_n 3, 1) := by decide +kernel
theorem dX2_form_8 : decode cX2_form 8 = .ok (.bipush 12, 2) := by decide +kernel
theorem dX2_form_10 : decode cX2_form 10 = .ok (.if_icmp .ge 16, 3) := by decide +kernel
theorem dX2_form_13 : decode cX2_form 13 = .ok (.aload_n 0, 1) := by decide +kernel
theorem dX2_form_14 : decode cX2_form 14 = .ok (.getfield 15, 3) := by decide +kernel
theorem dX2_form_17 : decode cX2_form 17 = .ok (.iload_n 3, 1) := by decide +kernel
theorem dX2_form_18 : decode cX2_form 18 = .ok (.iconst (-1), 1) := by decide +kernel
theorem dX2_form_19 : decode cX2_form 19 = .ok (.iastore, 1) := by decide +kernel
theorem dX2_form_20 : decode cX2_form 20 = .ok (.iinc 3 1, 3) := by decide +kernel
theorem dX2_form_23 : decode cX2_form 23 = .ok (.goto (-16), 3) := by decide +kernel
theorem dX2_form_26 : decode cX2_form 26 = .ok (.aload_n 1, 1) := by decide +kernel
theorem dX2_form_27 : decode cX2_form 27 = .ok (.aload_n 0, 1) := by decide +kernel
theorem dX2_form_28 : decode cX2_form 28 = .ok (.getfield 9, 3) := by decide +kernel
theorem dX2_form_31 : decode cX2_form 31 = .ok (.invokevirtual 25, 3) := by decide +kernel
theorem dX2_form_34 : decode cX2_form 34 = .ok (.iconst 0, 1) := by decide +kernel
theorem dX2_form_35 : decode cX2_form 35 = .ok (.istore_n 3, 1) := by decide +kernel
theorem dX2_form_36 : decode cX2_form 36 = .ok (.iload_n 3, 1) := by decide +kernel
theorem dX2_form_37 : decode cX2_form 37 = .ok (.aload_n 1, 1) := by decide +kernel
theorem dX2_form_38 : decode cX2_form 38 = .ok (.getfield 31, 3) := by decide +kernel
theorem dX2_form_41 : decode cX2_form 41 = .ok (.getfield 35, 3) := by decide +kernel
theorem dX2_form_44 : decode cX2_form 44 = .ok (.if_icmp .ge 156, 3) := by decide +kernel
theorem dX2_form_47 : decode cX2_form 47 = .ok (.aload_n 0, 1) := by decide +kernel
theorem dX2_form_48 : decode cX2_form 48 = .ok (.getfield 9, 3) := by decide +kernel
theorem dX2_form_51 : decode cX2_form 51 = .ok (.iload_n 3, 1) := by decide +kernel
theorem dX2_form_52 : decode cX2_form 52 = .ok (.iaload, 1) := by decide +kernel
theorem dX2_form_53 : decode cX2_form 53 = .ok (.istore 4, 2) := by decide +kernel
theorem dX2_form_55 : decode cX2_form 55 = .ok (.aload_n 1, 1) := by decide +kernel
theorem dX2_form_56 : decode cX2_form 56 = .ok (.getfield 31, 3) := by decide +kernel
theorem dX2_form_59 : decode cX2_form 59 = .ok (.iload 4, 2) := by decide +kernel
theorem dX2_form_61 : decode cX2_form 61 = .ok (.invokevirtual 38, 3) := by decide +kernel
theorem dX2_form_64 : decode cX2_form 64 = .ok (.ifCond .eq 130, 3) := by decide +kernel
theorem dX2_form_67 : decode cX2_form 67 = .ok (.aload_n 0, 1) := by decide +kernel
theorem dX2_form_68 : decode cX2_form 68 = .ok (.getfield 15, 3) := by decide +kernel
theorem dX2_form_71 : decode cX2_form 71 = .ok (.iload 4, 2) := by decide +kernel
theorem dX2_form_73 : decode cX2_form 73 = .ok (.iaload, 1) := by decide +kernel
theorem dX2_form_74 : decode cX2_form 74 = .ok (.iconst (-1), 1) := by decide +kernel
theorem dX2_form_75 : decode cX2_form 75 = .ok (.if_icmp .ne 119, 3) := by decide +kernel
theorem dX2_form_78 : decode cX2_form 78 = .ok (.aload_n 0, 1) := by decide +kernel
theorem dX2_form_79 : decode cX2_form 79 = .ok (.getfield 21, 3) := by decide +kernel
theorem dX2_form_82 : decode cX2_form 82 = .ok (.aload_n 0, 1) := by decide +kernel
theorem dX2_form_83 : decode cX2_form 83 = .ok (.getfield 18, 3) := by decide +kernel
theorem dX2_form_86 : decode cX2_form 86 = .ok (.arraylength, 1) := by decide +kernel
theorem dX2_form_87 : decode cX2_form 87 = .ok (.if_icmp .lt 6, 3) := by decide +kernel
theorem dX2_form_90 : decode cX2_form 90 = .ok (.goto 104, 3) := by decide +kernel
theorem dX2_form_93 : decode cX2_form 93 = .ok (.aload_n 0, 1) := by decide +kernel
theorem dX2_form_94 : decode cX2_form 94 = .ok (.getfield 18, 3) := by decide +kernel
theorem dX2_form_97 : decode cX2_form 97 = .ok (.aload_n 0, 1) := by decide +kernel
theorem dX2_form_98 : decode cX2_form 98 = .ok (.getfield 21, 3) := by decide +kernel
theorem dX2_form_101 : decode cX2_form 101 = .ok (.iload 4, 2) := by decide +kernel
theorem dX2_form_103 : decode cX2_form 103 = .ok (.iastore, 1) := by decide +kernel
theorem dX2_form_104 : decode cX2_form 104 = .ok (.iload_n 3, 1) := by decide +kernel
theorem dX2_form_105 : decode cX2_form 105 = .ok (.istore 5, 2) := by decide +kernel
theorem dX2_form_107 : decode cX2_form 107 = .ok (.iload 5, 2) := by decide +kernel
theorem dX2_form_109 : decode cX2_form 109 = .ok (.aload_n 1, 1) := by decide +kernel
theorem dX2_form_110 : decode cX2_form 110 = .ok (.getfield 31, 3) := by decide +kernel
theorem dX2_form_113 : decode cX2_form 113 = .ok (.getfield 35, 3) := by decide +kernel
theorem dX2_form_116 : decode cX2_form 116 = .ok (.if_icmp .ge 68, 3) := by decide +kernel
theorem dX2_form_119 : decode cX2_form 119 = .ok (.aload_n 0, 1) := by decide +kernel
theorem dX2_form_120 : decode cX2_form 120 = .ok (.getfield 9, 3) := by decide +kernel
theorem dX2_form_123 : decode cX2_form 123 = .ok (.iload 5, 2) := by decide +kernel
theorem dX2_form_125 : decode cX2_form 125 = .ok (.iaload, 1) := by decide +kernel
theorem dX2_form_126 : decode cX2_form 126 = .ok (.istore 6, 2) := by decide +kernel
theorem dX2_form_128 : decode cX2_form 128 = .ok (.aload_n 1, 1) := by decide +kernel
theorem dX2_form_129 : decode cX2_form 129 = .ok (.getfield 31, 3) := by decide +kernel
theorem dX2_form_132 : decode cX2_form 132 = .ok (.iload 6, 2) := by decide +kernel
theorem dX2_form_134 : decode cX2_form 134 = .ok (.invokevirtual 38, 3) := by decide +kernel
theorem dX2_form_137 : decode cX2_form 137 = .ok (.ifCond .eq 41, 3) := by decide +kernel
theorem dX2_form_140 : decode cX2_form 140 = .ok (.aload_n 0, 1) := by decide +kernel
theorem dX2_form_141 : decode cX2_form 141 = .ok (.getfield 15, 3) := by decide +kernel
theorem dX2_form_144 : decode cX2_form 144 = .ok (.iload 6, 2) := by decide +kernel
theorem dX2_form_146 : decode cX2_form 146 = .ok (.iaload, 1) := by decide +kernel
theorem dX2_form_147 : decode cX2_form 147 = .ok (.iconst (-1), 1) := by decide +kernel
theorem dX2_form_148 : decode cX2_form 148 = .ok (.if_icmp .ne 30, 3) := by decide +kernel
theorem dX2_form_151 : decode cX2_form 151 = .ok (.aload_n 2, 1) := by decide +kernel
theorem dX2_form_152 : decode cX2_form 152 = .ok (.aload_n 1, 1) := by decide +kernel
theorem dX2_form_153 : decode cX2_form 153 = .ok (.iload 4, 2) := by decide +kernel
theorem dX2_form_155 : decode cX2_form 155 = .ok (.iload 6, 2) := by decide +kernel
theorem dX2_form_157 : decode cX2_form 157 = .ok (.invokevirtual 42, 3) := by decide +kernel
theorem dX2_form_160 : decode cX2_form 160 = .ok (.aload_n 1, 1) := by decide +kernel
theorem dX2_form_161 : decode cX2_form 161 = .ok (.getfield 48, 3) := by decide +kernel
theorem dX2_form_164 : decode cX2_form 164 = .ok (.if_icmp .gt 14, 3) := by decide +kernel
theorem dX2_form_167 : decode cX2_form 167 = .ok (.aload_n 0, 1) := by decide +kernel
theorem dX2_form_168 : decode cX2_form 168 = .ok (.getfield 15, 3) := by decide +kernel
theorem dX2_form_171 : decode cX2_form 171 = .ok (.iload 6, 2) := by decide +kernel
theorem dX2_form_173 : decode cX2_form 173 = .ok (.aload_n 0, 1) := by decide +kernel
theorem dX2_form_174 : decode cX2_form 174 = .ok (.getfield 21, 3) := by decide +kernel
theorem dX2_form_177 : decode cX2_form 177 = .ok (.iastore, 1) := by decide +kernel
theorem dX2_form_178 : decode cX2_form 178 = .ok (.iinc 5 1, 3) := by decide +kernel
theorem dX2_form_181 : decode cX2_form 181 = .ok (.goto (-74), 3) := by decide +kernel
theorem dX2_form_184 : decode cX2_form 184 = .ok (.aload_n 0, 1) := by decide +kernel
theorem dX2_form_185 : decode cX2_form 185 = .ok (.dup, 1) := by decide +kernel
theorem dX2_form_186 : decode cX2_form 186 = .ok (.getfield 21, 3) := by decide +kernel
theorem dX2_form_189 : decode cX2_form 189 = .ok (.iconst 1, 1) := by decide +kernel
theorem dX2_form_190 : decode cX2_form 190 = .ok (.iadd, 1) := by decide +kernel
theorem dX2_form_191 : decode cX2_form 191 = .ok (.putfield 21, 3) := by decide +kernel
theorem dX2_form_194 : decode cX2_form 194 = .ok (.iinc 3 1, 3) := by decide +kernel
theorem dX2_form_197 : decode cX2_form 197 = .ok (.goto (-161), 3) := by decide +kernel
theorem dX2_form_200 : decode cX2_form 200 = .ok (.return_, 1) := by decide +kernel
theorem dX2_centre_0 : decode cX2_centre 0 = .ok (.iload_n 1, 1) := by decide +kernel
theorem dX2_centre_1 : decode cX2_centre 1 = .ok (.ifCond .lt 20, 3) := by decide +kernel
theorem dX2_centre_4 : decode cX2_centre 4 = .ok (.iload_n 1, 1) := by decide +kernel
theorem dX2_centre_5 : decode cX2_centre 5 = .ok (.aload_n 0, 1) := by decide +kernel
theorem dX2_centre_6 : decode cX2_centre 6 = .ok (.getfield 21, 3) := by decide +kernel
theorem dX2_centre_9 : decode cX2_centre 9 = .ok (.if_icmp .ge 12, 3) := by decide +kernel
theorem dX2_centre_12 : decode cX2_centre 12 = .ok (.aload_n 0, 1) := by decide +kernel
theorem dX2_centre_13 : decode cX2_centre 13 = .ok (.getfield 18, 3) := by decide +kernel
theorem dX2_centre_16 : decode cX2_centre 16 = .ok (.iload_n 1, 1) := by decide +kernel
theorem dX2_centre_17 : decode cX2_centre 17 = .ok (.iaload, 1) := by decide +kernel
theorem dX2_centre_18 : decode cX2_centre 18 = .ok (.goto 5, 3) := by decide +kernel
theorem dX2_centre_21 : decode cX2_centre 21 = .ok (.bipush (-4), 2) := by decide +kernel
theorem dX2_centre_23 : decode cX2_centre 23 = .ok (.ireturn, 1) := by decide +kernel
theorem dX2_members_0 : decode cX2_members 0 = .ok (.iconst 0, 1) := by decide +kernel
theorem dX2_members_1 : decode cX2_members 1 = .ok (.istore_n 3, 1) := by decide +kernel
theorem dX2_members_2 : decode cX2_members 2 = .ok (.iconst 0, 1) := by decide +kernel
theorem dX2_members_3 : decode cX2_members 3 = .ok (.istore 4, 2) := by decide +kernel
theorem dX2_members_5 : decode cX2_members 5 = .ok (.iload 4, 2) := by decide +kernel
theorem dX2_members_7 : decode cX2_members 7 = .ok (.aload_n 1, 1) := by decide +kernel
theorem dX2_members_8 : decode cX2_members 8 = .ok (.getfield 31, 3) := by decide +kernel
theorem dX2_members_11 : decode cX2_members 11 = .ok (.getfield 35, 3) := by decide +kernel
theorem dX2_members_14 : decode cX2_members 14 = .ok (.if_icmp .ge 28, 3) := by decide +kernel
theorem dX2_members_17 : decode cX2_members 17 = .ok (.iload_n 3, 1) := by decide +kernel
theorem dX2_members_18 : decode cX2_members 18 = .ok (.aload_n 0, 1) := by decide +kernel
theorem dX2_members_19 : decode cX2_members 19 = .ok (.getfield 15, 3) := by decide +kernel
theorem dX2_members_22 : decode cX2_members 22 = .ok (.iload 4, 2) := by decide +kernel
theorem dX2_members_24 : decode cX2_members 24 = .ok (.iaload, 1) := by decide +kernel
theorem dX2_members_25 : decode cX2_members 25 = .ok (.iload_n 2, 1) := by decide +kernel
theorem dX2_members_26 : decode cX2_members 26 = .ok (.if_icmp .ne 7, 3) := by decide +kernel
theorem dX2_members_29 : decode cX2_members 29 = .ok (.iconst 1, 1) := by decide +kernel
theorem dX2_members_30 : decode cX2_members 30 = .ok (.goto 4, 3) := by decide +kernel
theorem dX2_members_33 : decode cX2_members 33 = .ok (.iconst 0, 1) := by decide +kernel
theorem dX2_members_34 : decode cX2_members 34 = .ok (.iadd, 1) := by decide +kernel
theorem dX2_members_35 : decode cX2_members 35 = .ok (.istore_n 3, 1) := by decide +kernel
theorem dX2_members_36 : decode cX2_members 36 = .ok (.iinc 4 1, 3) := by decide +kernel
theorem dX2_members_39 : decode cX2_members 39 = .ok (.goto (-34), 3) := by decide +kernel
theorem dX2_members_42 : decode cX2_members 42 = .ok (.iload_n 3, 1) := by decide +kernel
theorem dX2_members_43 : decode cX2_members 43 = .ok (.ireturn, 1) := by decide +kernel
theorem dX2_regions_0 : decode cX2_regions 0 = .ok (.iconst 0, 1) := by decide +kernel
theorem dX2_regions_1 : decode cX2_regions 1 = .ok (.istore_n 3, 1) := by decide +kernel
theorem dX2_regions_2 : decode cX2_regions 2 = .ok (.iconst 0, 1) := by decide +kernel
theorem dX2_regions_3 : decode cX2_regions 3 = .ok (.istore 4, 2) := by decide +kernel
theorem dX2_regions_5 : decode cX2_regions 5 = .ok (.iload 4, 2) := by decide +kernel
theorem dX2_regions_7 : decode cX2_regions 7 = .ok (.aload_n 1, 1) := by decide +kernel
theorem dX2_regions_8 : decode cX2_regions 8 = .ok (.getfield 31, 3) := by decide +kernel
theorem dX2_regions_11 : decode cX2_regions 11 = .ok (.getfield 35, 3) := by decide +kernel
theorem dX2_regions_14 : decode cX2_regions 14 = .ok (.if_icmp .ge 32, 3) := by decide +kernel
theorem dX2_regions_17 : decode cX2_regions 17 = .ok (.aload_n 0, 1) := by decide +kernel
theorem dX2_regions_18 : decode cX2_regions 18 = .ok (.getfield 15, 3) := by decide +kernel
theorem dX2_regions_21 : decode cX2_regions 21 = .ok (.iload 4, 2) := by decide +kernel
theorem dX2_regions_23 : decode cX2_regions 23 = .ok (.iaload, 1) := by decide +kernel
theorem dX2_regions_24 : decode cX2_regions 24 = .ok (.iload_n 2, 1) := by decide +kernel
theorem dX2_regions_25 : decode cX2_regions 25 = .ok (.if_icmp .ne 15, 3) := by decide +kernel
theorem dX2_regions_28 : decode cX2_regions 28 = .ok (.iload_n 3, 1) := by decide +kernel
theorem dX2_regions_29 : decode cX2_regions 29 = .ok (.iconst 1, 1) := by decide +kernel
theorem dX2_regions_30 : decode cX2_regions 30 = .ok (.aload_n 1, 1) := by decide +kernel
theorem dX2_regions_31 : decode cX2_regions 31 = .ok (.getfield 51, 3) := by decide +kernel
theorem dX2_regions_34 : decode cX2_regions 34 = .ok (.iload 4, 2) := by decide +kernel
theorem dX2_regions_36 : decode cX2_regions 36 = .ok (.iaload, 1) := by decide +kernel
theorem dX2_regions_37 : decode cX2_regions 37 = .ok (.ishl, 1) := by decide +kernel
theorem dX2_regions_38 : decode cX2_regions 38 = .ok (.ior, 1) := by decide +kernel
theorem dX2_regions_39 : decode cX2_regions 39 = .ok (.istore_n 3, 1) := by decide +kernel
theorem dX2_regions_40 : decode cX2_regions 40 = .ok (.iinc 4 1, 3) := by decide +kernel
theorem dX2_regions_43 : decode cX2_regions 43 = .ok (.goto (-38), 3) := by decide +kernel
theorem dX2_regions_46 : decode cX2_regions 46 = .ok (.iload_n 3, 1) := by decide +kernel
theorem dX2_regions_47 : decode cX2_regions 47 = .ok (.invokestatic 54, 3) := by decide +kernel
theorem dX2_regions_50 : decode cX2_regions 50 = .ok (.ireturn, 1) := by decide +kernel
theorem dX2_radius_0 : decode cX2_radius 0 = .ok (.iconst 0, 1) := by decide +kernel
theorem dX2_radius_1 : decode cX2_radius 1 = .ok (.istore 4, 2) := by decide +kernel
theorem dX2_radius_3 : decode cX2_radius 3 = .ok (.iconst 0, 1) := by decide +kernel
theorem dX2_radius_4 : decode cX2_radius 4 = .ok (.istore 5, 2) := by decide +kernel
theorem dX2_radius_6 : decode cX2_radius 6 = .ok (.iload 5, 2) := by decide +kernel
theorem dX2_radius_8 : decode cX2_radius 8 = .ok (.aload_n 1, 1) := by decide +kernel
theorem dX2_radius_9 : decode cX2_radius 9 = .ok (.getfield 31, 3) := by decide +kernel
theorem dX2_radius_12 : decode cX2_radius 12 = .ok (.getfield 35, 3) := by decide +kernel
theorem dX2_radius_15 : decode cX2_radius 15 = .ok (.if_icmp .ge 39, 3) := by decide +kernel
theorem dX2_radius_18 : decode cX2_radius 18 = .ok (.aload_n 0, 1) := by decide +kernel
theorem dX2_radius_19 : decode cX2_radius 19 = .ok (.getfield 15, 3) := by decide +kernel
theorem dX2_radius_22 : decode cX2_radius 22 = .ok (.iload 5, 2) := by decide +kernel
theorem dX2_radius_24 : decode cX2_radius 24 = .ok (.iaload, 1) := by decide +kernel
theorem dX2_radius_25 : decode cX2_radius 25 = .ok (.iload_n 3, 1) := by decide +kernel
theorem dX2_radius_26 : decode cX2_radius 26 = .ok (.if_icmp .ne 22, 3) := by decide +kernel
theorem dX2_radius_29 : decode cX2_radius 29 = .ok (.iload 4, 2) := by decide +kernel
theorem dX2_radius_31 : decode cX2_radius 31 = .ok (.aload_n 2, 1) := by decide +kernel
theorem dX2_radius_32 : decode cX2_radius 32 = .ok (.aload_n 1, 1) := by decide +kernel
theorem dX2_radius_33 : decode cX2_radius 33 = .ok (.aload_n 0, 1) := by decide +kernel
theorem dX2_radius_34 : decode cX2_radius 34 = .ok (.iload_n 3, 1) := by decide +kernel
theorem dX2_radius_35 : decode cX2_radius 35 = .ok (.invokevirtual 60, 3) := by decide +kernel
theorem dX2_radius_38 : decode cX2_radius 38 = .ok (.iload 5, 2) := by decide +kernel
theorem dX2_radius_40 : decode cX2_radius 40 = .ok (.invokevirtual 42, 3) := by decide +kernel
theorem dX2_radius_43 : decode cX2_radius 43 = .ok (.invokestatic 63, 3) := by decide +kernel
theorem dX2_radius_46 : decode cX2_radius 46 = .ok (.istore 4, 2) := by decide +kernel
theorem dX2_radius_48 : decode cX2_radius 48 = .ok (.iinc 5 1, 3) := by decide +kernel
theorem dX2_radius_51 : decode cX2_radius 51 = .ok (.goto (-45), 3) := by decide +kernel
theorem dX2_radius_54 : decode cX2_radius 54 = .ok (.iload 4, 2) := by decide +kernel
theorem dX2_radius_56 : decode cX2_radius 56 = .ok (.ireturn, 1) := by decide +kernel
theorem dX3_init_0 : decode cX3_init 0 = .ok (.aload_n 0, 1) := by decide +kernel
theorem dX3_init_1 : decode cX3_init 1 = .ok (.invokespecial 3, 3) := by decide +kernel
theorem dX3_init_4 : decode cX3_init 4 = .ok (.aload_n 0, 1) := by decide +kernel
theorem dX3_init_5 : decode cX3_init 5 = .ok (.iconst 5, 1) := by decide +kernel
theorem dX3_init_6 : decode cX3_init 6 = .ok (.anewarray 9, 3) := by decide +kernel
theorem dX3_init_9 : decode cX3_init 9 = .ok (.putfield 11, 3) := by decide +kernel
theorem dX3_init_12 : decode cX3_init 12 = .ok (.iconst 0, 1) := by decide +kernel
theorem dX3_init_13 : decode cX3_init 13 = .ok (.istore_n 1, 1) := by decide +kernel
theorem dX3_init_14 : decode cX3_init 14 = .ok (.iload_n 1, 1) := by decide +kernel
theorem dX3_init_15 : decode cX3_init 15 = .ok (.iconst 5, 1) := by decide +kernel
theorem dX3_init_16 : decode cX3_init 16 = .ok (.if_icmp .ge 22, 3) := by decide +kernel
theorem dX3_init_19 : decode cX3_init 19 = .ok (.aload_n 0, 1) := by decide +kernel
theorem dX3_init_20 : decode cX3_init 20 = .ok (.getfield 11, 3) := by decide +kernel
theorem dX3_init_23 : decode cX3_init 23 = .ok (.iload_n 1, 1) := by decide +kernel
theorem dX3_init_24 : decode cX3_init 24 = .ok (.new 9, 3) := by decide +kernel
theorem dX3_init_27 : decode cX3_init 27 = .ok (.dup, 1) := by decide +kernel
theorem dX3_init_28 : decode cX3_init 28 = .ok (.invokespecial 17, 3) := by decide +kernel
theorem dX3_init_31 : decode cX3_init 31 = .ok (.aastore, 1) := by decide +kernel
theorem dX3_init_32 : decode cX3_init 32 = .ok (.iinc 1 1, 3) := by decide +kernel
theorem dX3_init_35 : decode cX3_init 35 = .ok (.goto (-21), 3) := by decide +kernel
theorem dX3_init_38 : decode cX3_init 38 = .ok (.return_, 1) := by decide +kernel
theorem dX3_keep_0 : decode cX3_keep 0 = .ok (.aload_n 0, 1) := by decide +kernel
theorem dX3_keep_1 : decode cX3_keep 1 = .ok (.aload_n 0, 1) := by decide +kernel
theorem dX3_keep_2 : decode cX3_keep 2 = .ok (.getfield 18, 3) := by decide +kernel
theorem dX3_keep_5 : decode cX3_keep 5 = .ok (.iconst 5, 1) := by decide +kernel
theorem dX3_keep_6 : decode cX3_keep 6 = .ok (.if_icmp .ge 10, 3) := by decide +kernel
theorem dX3_keep_9 : decode cX3_keep 9 = .ok (.aload_n 0, 1) := by decide +kernel
theorem dX3_keep_10 : decode cX3_keep 10 = .ok (.getfield 18, 3) := by decide +kernel
theorem dX3_keep_13 : decode cX3_keep 13 = .ok (.goto 4, 3) := by decide +kernel
theorem dX3_keep_16 : decode cX3_keep 16 = .ok (.iconst 0, 1) := by decide +kernel
theorem dX3_keep_17 : decode cX3_keep 17 = .ok (.putfield 18, 3) := by decide +kernel
theorem dX3_keep_20 : decode cX3_keep 20 = .ok (.aload_n 0, 1) := by decide +kernel
theorem dX3_keep_21 : decode cX3_keep 21 = .ok (.getfield 11, 3) := by decide +kernel
theorem dX3_keep_24 : decode cX3_keep 24 = .ok (.aload_n 0, 1) := by decide +kernel
theorem dX3_keep_25 : decode cX3_keep 25 = .ok (.getfield 18, 3) := by decide +kernel
theorem dX3_keep_28 : decode cX3_keep 28 = .ok (.aaload, 1) := by decide +kernel
theorem dX3_keep_29 : decode cX3_keep 29 = .ok (.aload_n 1, 1) := by decide +kernel
theorem dX3_keep_30 : decode cX3_keep 30 = .ok (.invokevirtual 22, 3) := by decide +kernel
theorem dX3_keep_33 : decode cX3_keep 33 = .ok (.aload_n 0, 1) := by decide +kernel
theorem dX3_keep_34 : decode cX3_keep 34 = .ok (.dup, 1) := by decide +kernel
theorem dX3_keep_35 : decode cX3_keep 35 = .ok (.getfield 18, 3) := by decide +kernel
theorem dX3_keep_38 : decode cX3_keep 38 = .ok (.iconst 1, 1) := by decide +kernel
theorem dX3_keep_39 : decode cX3_keep 39 = .ok (.iadd, 1) := by decide +kernel
theorem dX3_keep_40 : decode cX3_keep 40 = .ok (.putfield 18, 3) := by decide +kernel
theorem dX3_keep_43 : decode cX3_keep 43 = .ok (.aload_n 0, 1) := by decide +kernel
theorem dX3_keep_44 : decode cX3_keep 44 = .ok (.aload_n 0, 1) := by decide +kernel
theorem dX3_keep_45 : decode cX3_keep 45 = .ok (.getfield 26, 3) := by decide +kernel
theorem dX3_keep_48 : decode cX3_keep 48 = .ok (.iconst 1, 1) := by decide +kernel
theorem dX3_keep_49 : decode cX3_keep 49 = .ok (.iadd, 1) := by decide +kernel
theorem dX3_keep_50 : decode cX3_keep 50 = .ok (.iconst 5, 1) := by decide +kernel
theorem dX3_keep_51 : decode cX3_keep 51 = .ok (.invokestatic 29, 3) := by decide +kernel
theorem dX3_keep_54 : decode cX3_keep 54 = .ok (.putfield 26, 3) := by decide +kernel
theorem dX3_keep_57 : decode cX3_keep 57 = .ok (.return_, 1) := by decide +kernel
theorem dX3_restore_0 : decode cX3_restore 0 = .ok (.aload_n 0, 1) := by decide +kernel
theorem dX3_restore_1 : decode cX3_restore 1 = .ok (.aload_n 0, 1) := by decide +kernel
theorem dX3_restore_2 : decode cX3_restore 2 = .ok (.getfield 18, 3) := by decide +kernel
theorem dX3_restore_5 : decode cX3_restore 5 = .ok (.ifCond .le 12, 3) := by decide +kernel
theorem dX3_restore_8 : decode cX3_restore 8 = .ok (.aload_n 0, 1) := by decide +kernel
theorem dX3_restore_9 : decode cX3_restore 9 = .ok (.getfield 18, 3) := by decide +kernel
theorem dX3_restore_12 : decode cX3_restore 12 = .ok (.iconst 1, 1) := by decide +kernel
theorem dX3_restore_13 : decode cX3_restore 13 = .ok (.isub, 1) := by decide +kernel
theorem dX3_restore_14 : decode cX3_restore 14 = .ok (.goto 4, 3) := by decide +kernel
theorem dX3_restore_17 : decode cX3_restore 17 = .ok (.iconst 4, 1) := by decide +kernel
theorem dX3_restore_18 : decode cX3_restore 18 = .ok (.putfield 18, 3) := by decide +kernel
theorem dX3_restore_21 : decode cX3_restore 21 = .ok (.aload_n 0, 1) := by decide +kernel
theorem dX3_restore_22 : decode cX3_restore 22 = .ok (.dup, 1) := by decide +kernel
theorem dX3_restore_23 : decode cX3_restore 23 = .ok (.getfield 26, 3) := by decide +kernel
theorem dX3_restore_26 : decode cX3_restore 26 = .ok (.iconst 1, 1) := by decide +kernel
theorem dX3_restore_27 : decode cX3_restore 27 = .ok (.isub, 1) := by decide +kernel
theorem dX3_restore_28 : decode cX3_restore 28 = .ok (.putfield 26, 3) := by decide +kernel
theorem dX3_restore_31 : decode cX3_restore 31 = .ok (.aload_n 1, 1) := by decide +kernel
theorem dX3_restore_32 : decode cX3_restore 32 = .ok (.aload_n 0, 1) := by decide +kernel
theorem dX3_restore_33 : decode cX3_restore 33 = .ok (.getfield 11, 3) := by decide +kernel
theorem dX3_restore_36 : decode cX3_restore 36 = .ok (.aload_n 0, 1) := by decide +kernel
theorem dX3_restore_37 : decode cX3_restore 37 = .ok (.getfield 18, 3) := by decide +kernel
theorem dX3_restore_40 : decode cX3_restore 40 = .ok (.aaload, 1) := by decide +kernel
theorem dX3_restore_41 : decode cX3_restore 41 = .ok (.invokevirtual 22, 3) := by decide +kernel
theorem dX3_restore_44 : decode cX3_restore 44 = .ok (.return_, 1) := by decide +kernel
theorem dX4_init_0 : decode cX4_init 0 = .ok (.aload_n 0, 1) := by decide +kernel
theorem dX4_init_1 : decode cX4_init 1 = .ok (.invokespecial 3, 3) := by decide +kernel
theorem dX4_init_4 : decode cX4_init 4 = .ok (.aload_n 0, 1) := by decide +kernel
theorem dX4_init_5 : decode cX4_init 5 = .ok (.new 9, 3) := by decide +kernel
theorem dX4_init_8 : decode cX4_init 8 = .ok (.dup, 1) := by decide +kernel
theorem dX4_init_9 : decode cX4_init 9 = .ok (.invokespecial 11, 3) := by decide +kernel
theorem dX4_init_12 : decode cX4_init 12 = .ok (.putfield 12, 3) := by decide +kernel
theorem dX4_init_15 : decode cX4_init 15 = .ok (.aload_n 0, 1) := by decide +kernel
theorem dX4_init_16 : decode cX4_init 16 = .ok (.new 9, 3) := by decide +kernel
theorem dX4_init_19 : decode cX4_init 19 = .ok (.dup, 1) := by decide +kernel
theorem dX4_init_20 : decode cX4_init 20 = .ok (.invokespecial 11, 3) := by decide +kernel
theorem dX4_init_23 : decode cX4_init 23 = .ok (.putfield 18, 3) := by decide +kernel
theorem dX4_init_26 : decode cX4_init 26 = .ok (.aload_n 0, 1) := by decide +kernel
theorem dX4_init_27 : decode cX4_init 27 = .ok (.iconst 4, 1) := by decide +kernel
theorem dX4_init_28 : decode cX4_init 28 = .ok (.newarray .int, 2) := by decide +kernel
theorem dX4_init_30 : decode cX4_init 30 = .ok (.putfield 21, 3) := by decide +kernel
theorem dX4_init_33 : decode cX4_init 33 = .ok (.aload_n 0, 1) := by decide +kernel
theorem dX4_init_34 : decode cX4_init 34 = .ok (.iconst 4, 1) := by decide +kernel
theorem dX4_init_35 : decode cX4_init 35 = .ok (.newarray .int, 2) := by decide +kernel
theorem dX4_init_37 : decode cX4_init 37 = .ok (.putfield 25, 3) := by decide +kernel
theorem dX4_init_40 : decode cX4_init 40 = .ok (.return_, 1) := by decide +kernel
theorem dX5_init_0 : decode cX5_init 0 = .ok (.aload_n 0, 1) := by decide +kernel
theorem dX5_init_1 : decode cX5_init 1 = .ok (.invokespecial 3, 3) := by decide +kernel
theorem dX5_init_4 : decode cX5_init 4 = .ok (.aload_n 0, 1) := by decide +kernel
theorem dX5_init_5 : decode cX5_init 5 = .ok (.bipush 8, 2) := by decide +kernel
theorem dX5_init_7 : decode cX5_init 7 = .ok (.newarray .int, 2) := by decide +kernel
theorem dX5_init_9 : decode cX5_init 9 = .ok (.putfield 9, 3) := by decide +kernel
theorem dX5_init_12 : decode cX5_init 12 = .ok (.return_, 1) := by decide +kernel
theorem dX5_add_0 : decode cX5_add 0 = .ok (.aload_n 0, 1) := by decide +kernel
theorem dX5_add_1 : decode cX5_add 1 = .ok (.getfield 15, 3) := by decide +kernel
theorem dX5_add_4 : decode cX5_add 4 = .ok (.bipush 8, 2) := by decide +kernel
theorem dX5_add_6 : decode cX5_add 6 = .ok (.if_icmp .ge 23, 3) := by decide +kernel
theorem dX5_add_9 : decode cX5_add 9 = .ok (.aload_n 0, 1) := by decide +kernel
theorem dX5_add_10 : decode cX5_add 10 = .ok (.getfield 9, 3) := by decide +kernel
theorem dX5_add_13 : decode cX5_add 13 = .ok (.aload_n 0, 1) := by decide +kernel
theorem dX5_add_14 : decode cX5_add 14 = .ok (.getfield 15, 3) := by decide +kernel
theorem dX5_add_17 : decode cX5_add 17 = .ok (.iload_n 1, 1) := by decide +kernel
theorem dX5_add_18 : decode cX5_add 18 = .ok (.iastore, 1) := by decide +kernel
theorem dX5_add_19 : decode cX5_add 19 = .ok (.aload_n 0, 1) := by decide +kernel
theorem dX5_add_20 : decode cX5_add 20 = .ok (.dup, 1) := by decide +kernel
theorem dX5_add_21 : decode cX5_add 21 = .ok (.getfield 15, 3) := by decide +kernel
theorem dX5_add_24 : decode cX5_add 24 = .ok (.iconst 1, 1) := by decide +kernel
theorem dX5_add_25 : decode cX5_add 25 = .ok (.iadd, 1) := by decide +kernel
theorem dX5_add_26 : decode cX5_add 26 = .ok (.putfield 15, 3) := by decide +kernel
theorem dX5_add_29 : decode cX5_add 29 = .ok (.return_, 1) := by decide +kernel
theorem dX5_at_0 : decode cX5_at 0 = .ok (.iload_n 1, 1) := by decide +kernel
theorem dX5_at_1 : decode cX5_at 1 = .ok (.ifCond .lt 20, 3) := by decide +kernel
theorem dX5_at_4 : decode cX5_at 4 = .ok (.iload_n 1, 1) := by decide +kernel
theorem dX5_at_5 : decode cX5_at 5 = .ok (.aload_n 0, 1) := by decide +kernel
theorem dX5_at_6 : decode cX5_at 6 = .ok (.getfield 15, 3) := by decide +kernel
theorem dX5_at_9 : decode cX5_at 9 = .ok (.if_icmp .ge 12, 3) := by decide +kernel
theorem dX5_at_12 : decode cX5_at 12 = .ok (.aload_n 0, 1) := by decide +kernel
theorem dX5_at_13 : decode cX5_at 13 = .ok (.getfield 9, 3) := by decide +kernel
theorem dX5_at_16 : decode cX5_at 16 = .ok (.iload_n 1, 1) := by decide +kernel
theorem dX5_at_17 : decode cX5_at 17 = .ok (.iaload, 1) := by decide +kernel
theorem dX5_at_18 : decode cX5_at 18 = .ok (.goto 4, 3) := by decide +kernel
theorem dX5_at_21 : decode cX5_at 21 = .ok (.iconst (-1), 1) := by decide +kernel
theorem dX5_at_22 : decode cX5_at 22 = .ok (.ireturn, 1) := by decide +kernel
theorem dX5_wordCount_0 : decode cX5_wordCount 0 = .ok (.iconst 0, 1) := by decide +kernel
theorem dX5_wordCount_1 : decode cX5_wordCount 1 = .ok (.istore_n 1, 1) := by decide +kernel
theorem dX5_wordCount_2 : decode cX5_wordCount 2 = .ok (.iconst 0, 1) := by decide +kernel
theorem dX5_wordCount_3 : decode cX5_wordCount 3 = .ok (.istore_n 2, 1) := by decide +kernel
theorem dX5_wordCount_4 : decode cX5_wordCount 4 = .ok (.iload_n 2, 1) := by decide +kernel
theorem dX5_wordCount_5 : decode cX5_wordCount 5 = .ok (.aload_n 0, 1) := by decide +kernel
theorem dX5_wordCount_6 : decode cX5_wordCount 6 = .ok (.getfield 15, 3) := by decide +kernel
theorem dX5_wordCount_9 : decode cX5_wordCount 9 = .ok (.if_icmp .ge 28, 3) := by decide +kernel
theorem dX5_wordCount_12 : decode cX5_wordCount 12 = .ok (.iload_n 1, 1) := by decide +kernel
theorem dX5_wordCount_13 : decode cX5_wordCount 13 = .ok (.aload_n 0, 1) := by decide +kernel
theorem dX5_wordCount_14 : decode cX5_wordCount 14 = .ok (.getfield 9, 3) := by decide +kernel
theorem dX5_wordCount_17 : decode cX5_wordCount 17 = .ok (.iload_n 2, 1) := by decide +kernel
theorem dX5_wordCount_18 : decode cX5_wordCount 18 = .ok (.iaload, 1) := by decide +kernel
theorem dX5_wordCount_19 : decode cX5_wordCount 19 = .ok (.bipush 60, 2) := by decide +kernel
theorem dX5_wordCount_21 : decode cX5_wordCount 21 = .ok (.if_icmp .ge 7, 3) := by decide +kernel
theorem dX5_wordCount_24 : decode cX5_wordCount 24 = .ok (.iconst 1, 1) := by decide +kernel
theorem dX5_wordCount_25 : decode cX5_wordCount 25 = .ok (.goto 4, 3) := by decide +kernel
theorem dX5_wordCount_28 : decode cX5_wordCount 28 = .ok (.iconst 0, 1) := by decide +kernel
theorem dX5_wordCount_29 : decode cX5_wordCount 29 = .ok (.iadd, 1) := by decide +kernel
theorem dX5_wordCount_30 : decode cX5_wordCount 30 = .ok (.istore_n 1, 1) := by decide +kernel
theorem dX5_wordCount_31 : decode cX5_wordCount 31 = .ok (.iinc 2 1, 3) := by decide +kernel
theorem dX5_wordCount_34 : decode cX5_wordCount 34 = .ok (.goto (-30), 3) := by decide +kernel
theorem dX5_wordCount_37 : decode cX5_wordCount 37 = .ok (.iload_n 1, 1) := by decide +kernel
theorem dX5_wordCount_38 : decode cX5_wordCount 38 = .ok (.ireturn, 1) := by decide +kernel
theorem dX6_init_0 : decode cX6_init 0 = .ok (.aload_n 0, 1) := by decide +kernel
theorem dX6_init_1 : decode cX6_init 1 = .ok (.invokespecial 3, 3) := by decide +kernel
theorem dX6_init_4 : decode cX6_init 4 = .ok (.aload_n 0, 1) := by decide +kernel
theorem dX6_init_5 : decode cX6_init 5 = .ok (.iload_n 1, 1) := by decide +kernel
theorem dX6_init_6 : decode cX6_init 6 = .ok (.putfield 9, 3) := by decide +kernel
theorem dX6_init_9 : decode cX6_init 9 = .ok (.aload_n 0, 1) := by decide +kernel
theorem dX6_init_10 : decode cX6_init 10 = .ok (.iload_n 1, 1) := by decide +kernel
theorem dX6_init_11 : decode cX6_init 11 = .ok (.bipush 8, 2) := by decide +kernel
theorem dX6_init_13 : decode cX6_init 13 = .ok (.imul, 1) := by decide +kernel
theorem dX6_init_14 : decode cX6_init 14 = .ok (.newarray .int, 2) := by decide +kernel
theorem dX6_init_16 : decode cX6_init 16 = .ok (.putfield 15, 3) := by decide +kernel
theorem dX6_init_19 : decode cX6_init 19 = .ok (.aload_n 0, 1) := by decide +kernel
theorem dX6_init_20 : decode cX6_init 20 = .ok (.iload_n 1, 1) := by decide +kernel
theorem dX6_init_21 : decode cX6_init 21 = .ok (.newarray .int, 2) := by decide +kernel
theorem dX6_init_23 : decode cX6_init 23 = .ok (.putfield 19, 3) := by decide +kernel
theorem dX6_init_26 : decode cX6_init 26 = .ok (.return_, 1) := by decide +kernel
theorem dX6_isFull_0 : decode cX6_isFull 0 = .ok (.aload_n 0, 1) := by decide +kernel
theorem dX6_isFull_1 : decode cX6_isFull 1 = .ok (.getfield 22, 3) := by decide +kernel
theorem dX6_isFull_4 : decode cX6_isFull 4 = .ok (.aload_n 0, 1) := by decide +kernel
theorem dX6_isFull_5 : decode cX6_isFull 5 = .ok (.getfield 9, 3) := by decide +kernel
theorem dX6_isFull_8 : decode cX6_isFull 8 = .ok (.if_icmp .lt 7, 3) := by decide +kernel
theorem dX6_isFull_11 : decode cX6_isFull 11 = .ok (.iconst 1, 1) := by decide +kernel
theorem dX6_isFull_12 : decode cX6_isFull 12 = .ok (.goto 4, 3) := by decide +kernel
theorem dX6_isFull_15 : decode cX6_isFull 15 = .ok (.iconst 0, 1) := by decide +kernel
theorem dX6_isFull_16 : decode cX6_isFull 16 = .ok (.ireturn, 1) := by decide +kernel
theorem dX6_has_0 : decode cX6_has 0 = .ok (.iload_n 1, 1) := by decide +kernel
theorem dX6_has_1 : decode cX6_has 1 = .ok (.ifCond .lt 15, 3) := by decide +kernel
theorem dX6_has_4 : decode cX6_has 4 = .ok (.iload_n 1, 1) := by decide +kernel
theorem dX6_has_5 : decode cX6_has 5 = .ok (.aload_n 0, 1) := by decide +kernel
theorem dX6_has_6 : decode cX6_has 6 = .ok (.getfield 22, 3) := by decide +kernel
theorem dX6_has_9 : decode cX6_has 9 = .ok (.if_icmp .ge 7, 3) := by decide +kernel
theorem dX6_has_12 : decode cX6_has 12 = .ok (.iconst 1, 1) := by decide +kernel
theorem dX6_has_13 : decode cX6_has 13 = .ok (.goto 4, 3) := by decide +kernel
theorem dX6_has_16 : decode cX6_has 16 = .ok (.iconst 0, 1) := by decide +kernel
theorem dX6_has_17 : decode cX6_has 17 = .ok (.ireturn, 1) := by decide +kernel
theorem dX6_size_0 : decode cX6_size 0 = .ok (.aload_n 0, 1) := by decide +kernel
theorem dX6_size_1 : decode cX6_size 1 = .ok (.iload_n 1, 1) := by decide +kernel
theorem dX6_size_2 : decode cX6_size 2 = .ok (.invokevirtual 25, 3) := by decide +kernel
theorem dX6_size_5 : decode cX6_size 5 = .ok (.ifCond .eq 12, 3) := by decide +kernel
theorem dX6_size_8 : decode cX6_size 8 = .ok (.aload_n 0, 1) := by decide +kernel
theorem dX6_size_9 : decode cX6_size 9 = .ok (.getfield 19, 3) := by decide +kernel
theorem dX6_size_12 : decode cX6_size 12 = .ok (.iload_n 1, 1) := by decide +kernel
theorem dX6_size_13 : decode cX6_size 13 = .ok (.iaload, 1) := by decide +kernel
theorem dX6_size_14 : decode cX6_size 14 = .ok (.goto 4, 3) := by decide +kernel
theorem dX6_size_17 : decode cX6_size 17 = .ok (.iconst 0, 1) := by decide +kernel
theorem dX6_size_18 : decode cX6_size 18 = .ok (.ireturn, 1) := by decide +kernel
theorem dX6_token_0 : decode cX6_token 0 = .ok (.aload_n 0, 1) := by decide +kernel
theorem dX6_token_1 : decode cX6_token 1 = .ok (.iload_n 1, 1) := by decide +kernel
theorem dX6_token_2 : decode cX6_token 2 = .ok (.invokevirtual 25, 3) := by decide +kernel
theorem dX6_token_5 : decode cX6_token 5 = .ok (.ifCond .eq 31, 3) := by decide +kernel
theorem dX6_token_8 : decode cX6_token 8 = .ok (.iload_n 2, 1) := by decide +kernel
theorem dX6_token_9 : decode cX6_token 9 = .ok (.ifCond .lt 27, 3) := by decide +kernel
theorem dX6_token_12 : decode cX6_token 12 = .ok (.iload_n 2, 1) := by decide +kernel
theorem dX6_token_13 : decode cX6_token 13 = .ok (.aload_n 0, 1) := by decide +kernel
theorem dX6_token_14 : decode cX6_token 14 = .ok (.getfield 19, 3) := by decide +kernel
theorem dX6_token_17 : decode cX6_token 17 = .ok (.iload_n 1, 1) := by decide +kernel
theorem dX6_token_18 : decode cX6_token 18 = .ok (.iaload, 1) := by decide +kernel
theorem dX6_token_19 : decode cX6_token 19 = .ok (.if_icmp .ge 17, 3) := by decide +kernel
theorem dX6_token_22 : decode cX6_token 22 = .ok (.aload_n 0, 1) := by decide +kernel
theorem dX6_token_23 : decode cX6_token 23 = .ok (.getfield 15, 3) := by decide +kernel
theorem dX6_token_26 : decode cX6_token 26 = .ok (.iload_n 1, 1) := by decide +kernel
theorem dX6_token_27 : decode cX6_token 27 = .ok (.bipush 8, 2) := by decide +kernel
theorem dX6_token_29 : decode cX6_token 29 = .ok (.imul, 1) := by decide +kernel
theorem dX6_token_30 : decode cX6_token 30 = .ok (.iload_n 2, 1) := by decide +kernel
theorem dX6_token_31 : decode cX6_token 31 = .ok (.iadd, 1) := by decide +kernel
theorem dX6_token_32 : decode cX6_token 32 = .ok (.iaload, 1) := by decide +kernel
theorem dX6_token_33 : decode cX6_token 33 = .ok (.goto 4, 3) := by decide +kernel
theorem dX6_token_36 : decode cX6_token 36 = .ok (.iconst (-1), 1) := by decide +kernel
theorem dX6_token_37 : decode cX6_token 37 = .ok (.ireturn, 1) := by decide +kernel
theorem dX6_add_0 : decode cX6_add 0 = .ok (.aload_n 0, 1) := by decide +kernel
theorem dX6_add_1 : decode cX6_add 1 = .ok (.getfield 22, 3) := by decide +kernel
theorem dX6_add_4 : decode cX6_add 4 = .ok (.istore_n 2, 1) := by decide +kernel
theorem dX6_add_5 : decode cX6_add 5 = .ok (.iload_n 2, 1) := by decide +kernel
theorem dX6_add_6 : decode cX6_add 6 = .ok (.aload_n 0, 1) := by decide +kernel
theorem dX6_add_7 : decode cX6_add 7 = .ok (.getfield 9, 3) := by decide +kernel
theorem dX6_add_10 : decode cX6_add 10 = .ok (.if_icmp .lt 5, 3) := by decide +kernel
theorem dX6_add_13 : decode cX6_add 13 = .ok (.iconst (-1), 1) := by decide +kernel
theorem dX6_add_14 : decode cX6_add 14 = .ok (.ireturn, 1) := by decide +kernel
theorem dX6_add_15 : decode cX6_add 15 = .ok (.iconst 0, 1) := by decide +kernel
theorem dX6_add_16 : decode cX6_add 16 = .ok (.istore_n 3, 1) := by decide +kernel
theorem dX6_add_17 : decode cX6_add 17 = .ok (.iload_n 3, 1) := by decide +kernel
theorem dX6_add_18 : decode cX6_add 18 = .ok (.aload_n 1, 1) := by decide +kernel
theorem dX6_add_19 : decode cX6_add 19 = .ok (.getfield 29, 3) := by decide +kernel
theorem dX6_add_22 : decode cX6_add 22 = .ok (.if_icmp .ge 25, 3) := by decide +kernel
theorem dX6_add_25 : decode cX6_add 25 = .ok (.aload_n 0, 1) := by decide +kernel
theorem dX6_add_26 : decode cX6_add 26 = .ok (.getfield 15, 3) := by decide +kernel
theorem dX6_add_29 : decode cX6_add 29 = .ok (.iload_n 2, 1) := by decide +kernel
theorem dX6_add_30 : decode cX6_add 30 = .ok (.bipush 8, 2) := by decide +kernel
theorem dX6_add_32 : decode cX6_add 32 = .ok (.imul, 1) := by decide +kernel
theorem dX6_add_33 : decode cX6_add 33 = .ok (.iload_n 3, 1) := by decide +kernel
theorem dX6_add_34 : decode cX6_add 34 = .ok (.iadd, 1) := by decide +kernel
theorem dX6_add_35 : decode cX6_add 35 = .ok (.aload_n 1, 1) := by decide +kernel
theorem dX6_add_36 : decode cX6_add 36 = .ok (.iload_n 3, 1) := by decide +kernel
theorem dX6_add_37 : decode cX6_add 37 = .ok (.invokevirtual 34, 3) := by decide +kernel
theorem dX6_add_40 : decode cX6_add 40 = .ok (.iastore, 1) := by decide +kernel
theorem dX6_add_41 : decode cX6_add 41 = .ok (.iinc 3 1, 3) := by decide +kernel
theorem dX6_add_44 : decode cX6_add 44 = .ok (.goto (-27), 3) := by decide +kernel
theorem dX6_add_47 : decode cX6_add 47 = .ok (.aload_n 0, 1) := by decide +kernel
theorem dX6_add_48 : decode cX6_add 48 = .ok (.getfield 19, 3) := by decide +kernel
theorem dX6_add_51 : decode cX6_add 51 = .ok (.iload_n 2, 1) := by decide +kernel
theorem dX6_add_52 : decode cX6_add 52 = .ok (.aload_n 1, 1) := by decide +kernel
theorem dX6_add_53 : decode cX6_add 53 = .ok (.getfield 29, 3) := by decide +kernel
theorem dX6_add_56 : decode cX6_add 56 = .ok (.iastore, 1) := by decide +kernel
theorem dX6_add_57 : decode cX6_add 57 = .ok (.aload_n 0, 1) := by decide +kernel
theorem dX6_add_58 : decode cX6_add 58 = .ok (.dup, 1) := by decide +kernel
theorem dX6_add_59 : decode cX6_add 59 = .ok (.getfield 22, 3) := by decide +kernel
theorem dX6_add_62 : decode cX6_add 62 = .ok (.iconst 1, 1) := by decide +kernel
theorem dX6_add_63 : decode cX6_add 63 = .ok (.iadd, 1) := by decide +kernel
theorem dX6_add_64 : decode cX6_add 64 = .ok (.putfield 22, 3) := by decide +kernel
theorem dX6_add_67 : decode cX6_add 67 = .ok (.iload_n 2, 1) := by decide +kernel
theorem dX6_add_68 : decode cX6_add 68 = .ok (.ireturn, 1) := by decide +kernel
theorem dX6_drop_0 : decode cX6_drop 0 = .ok (.aload_n 0, 1) := by decide +kernel
theorem dX6_drop_1 : decode cX6_drop 1 = .ok (.iload_n 1, 1) := by decide +kernel
theorem dX6_drop_2 : decode cX6_drop 2 = .ok (.invokevirtual 25, 3) := by decide +kernel
theorem dX6_drop_5 : decode cX6_drop 5 = .ok (.ifCond .eq 32, 3) := by decide +kernel
theorem dX6_drop_8 : decode cX6_drop 8 = .ok (.aload_n 0, 1) := by decide +kernel
theorem dX6_drop_9 : decode cX6_drop 9 = .ok (.getfield 15, 3) := by decide +kernel
theorem dX6_drop_12 : decode cX6_drop 12 = .ok (.iload_n 1, 1) := by decide +kernel
theorem dX6_drop_13 : decode cX6_drop 13 = .ok (.bipush 8, 2) := by decide +kernel
theorem dX6_drop_15 : decode cX6_drop 15 = .ok (.invokestatic 38, 3) := by decide +kernel
theorem dX6_drop_18 : decode cX6_drop 18 = .ok (.aload_n 0, 1) := by decide +kernel
theorem dX6_drop_19 : decode cX6_drop 19 = .ok (.getfield 19, 3) := by decide +kernel
theorem dX6_drop_22 : decode cX6_drop 22 = .ok (.iload_n 1, 1) := by decide +kernel
theorem dX6_drop_23 : decode cX6_drop 23 = .ok (.iconst 1, 1) := by decide +kernel
theorem dX6_drop_24 : decode cX6_drop 24 = .ok (.invokestatic 38, 3) := by decide +kernel
theorem dX6_drop_27 : decode cX6_drop 27 = .ok (.aload_n 0, 1) := by decide +kernel
theorem dX6_drop_28 : decode cX6_drop 28 = .ok (.dup, 1) := by decide +kernel
theorem dX6_drop_29 : decode cX6_drop 29 = .ok (.getfield 22, 3) := by decide +kernel
theorem dX6_drop_32 : decode cX6_drop 32 = .ok (.iconst 1, 1) := by decide +kernel
theorem dX6_drop_33 : decode cX6_drop 33 = .ok (.isub, 1) := by decide +kernel
theorem dX6_drop_34 : decode cX6_drop 34 = .ok (.putfield 22, 3) := by decide +kernel
theorem dX6_drop_37 : decode cX6_drop 37 = .ok (.return_, 1) := by decide +kernel
theorem dX6_load_0 : decode cX6_load 0 = .ok (.aload_n 2, 1) := by decide +kernel
theorem dX6_load_1 : decode cX6_load 1 = .ok (.iconst 0, 1) := by decide +kernel
theorem dX6_load_2 : decode cX6_load 2 = .ok (.putfield 29, 3) := by decide +kernel
theorem dX6_load_5 : decode cX6_load 5 = .ok (.iconst 0, 1) := by decide +kernel
theorem dX6_load_6 : decode cX6_load 6 = .ok (.istore_n 3, 1) := by decide +kernel
theorem dX6_load_7 : decode cX6_load 7 = .ok (.iload_n 3, 1) := by decide +kernel
theorem dX6_load_8 : decode cX6_load 8 = .ok (.aload_n 0, 1) := by decide +kernel
theorem dX6_load_9 : decode cX6_load 9 = .ok (.iload_n 1, 1) := by decide +kernel
theorem dX6_load_10 : decode cX6_load 10 = .ok (.invokevirtual 42, 3) := by decide +kernel
theorem dX6_load_13 : decode cX6_load 13 = .ok (.if_icmp .ge 19, 3) := by decide +kernel
theorem dX6_load_16 : decode cX6_load 16 = .ok (.aload_n 2, 1) := by decide +kernel
theorem dX6_load_17 : decode cX6_load 17 = .ok (.aload_n 0, 1) := by decide +kernel
theorem dX6_load_18 : decode cX6_load 18 = .ok (.iload_n 1, 1) := by decide +kernel
theorem dX6_load_19 : decode cX6_load 19 = .ok (.iload_n 3, 1) := by decide +kernel
theorem dX6_load_20 : decode cX6_load 20 = .ok (.invokevirtual 45, 3) := by decide +kernel
theorem dX6_load_23 : decode cX6_load 23 = .ok (.invokevirtual 49, 3) := by decide +kernel
theorem dX6_load_26 : decode cX6_load 26 = .ok (.iinc 3 1, 3) := by decide +kernel
theorem dX6_load_29 : decode cX6_load 29 = .ok (.goto (-22), 3) := by decide +kernel
theorem dX6_load_32 : decode cX6_load 32 = .ok (.return_, 1) := by decide +kernel
theorem dX6_copyFrom_0 : decode cX6_copyFrom 0 = .ok (.aload_n 1, 1) := by decide +kernel
theorem dX6_copyFrom_1 : decode cX6_copyFrom 1 = .ok (.getfield 15, 3) := by decide +kernel
theorem dX6_copyFrom_4 : decode cX6_copyFrom 4 = .ok (.aload_n 0, 1) := by decide +kernel
theorem dX6_copyFrom_5 : decode cX6_copyFrom 5 = .ok (.getfield 15, 3) := by decide +kernel
theorem dX6_copyFrom_8 : decode cX6_copyFrom 8 = .ok (.invokestatic 53, 3) := by decide +kernel
theorem dX6_copyFrom_11 : decode cX6_copyFrom 11 = .ok (.aload_n 1, 1) := by decide +kernel
theorem dX6_copyFrom_12 : decode cX6_copyFrom 12 = .ok (.getfield 19, 3) := by decide +kernel
theorem dX6_copyFrom_15 : decode cX6_copyFrom 15 = .ok (.aload_n 0, 1) := by decide +kernel
theorem dX6_copyFrom_16 : decode cX6_copyFrom 16 = .ok (.getfield 19, 3) := by decide +kernel
theorem dX6_copyFrom_19 : decode cX6_copyFrom 19 = .ok (.invokestatic 53, 3) := by decide +kernel
theorem dX6_copyFrom_22 : decode cX6_copyFrom 22 = .ok (.aload_n 0, 1) := by decide +kernel
theorem dX6_copyFrom_23 : decode cX6_copyFrom 23 = .ok (.aload_n 1, 1) := by decide +kernel
theorem dX6_copyFrom_24 : decode cX6_copyFrom 24 = .ok (.getfield 22, 3) := by decide +kernel
theorem dX6_copyFrom_27 : decode cX6_copyFrom 27 = .ok (.putfield 22, 3) := by decide +kernel
theorem dX6_copyFrom_30 : decode cX6_copyFrom 30 = .ok (.return_, 1) := by decide +kernel
theorem dX7_init_0 : decode cX7_init 0 = .ok (.aload_n 0, 1) := by decide +kernel
theorem dX7_init_1 : decode cX7_init 1 = .ok (.invokespecial 3, 3) := by decide +kernel
theorem dX7_init_4 : decode cX7_init 4 = .ok (.aload_n 0, 1) := by decide +kernel
theorem dX7_init_5 : decode cX7_init 5 = .ok (.new 9, 3) := by decide +kernel
theorem dX7_init_8 : decode cX7_init 8 = .ok (.dup, 1) := by decide +kernel
theorem dX7_init_9 : decode cX7_init 9 = .ok (.bipush 12, 2) := by decide +kernel
theorem dX7_init_11 : decode cX7_init 11 = .ok (.invokespecial 11, 3) := by decide +kernel
theorem dX7_init_14 : decode cX7_init 14 = .ok (.putfield 14, 3) := by decide +kernel
theorem dX7_init_17 : decode cX7_init 17 = .ok (.aload_n 0, 1) := by decide +kernel
theorem dX7_init_18 : decode cX7_init 18 = .ok (.bipush 12, 2) := by decide +kernel
theorem dX7_init_20 : decode cX7_init 20 = .ok (.newarray .int, 2) := by decide +kernel
theorem dX7_init_22 : decode cX7_init 22 = .ok (.putfield 20, 3) := by decide +kernel
theorem dX7_init_25 : decode cX7_init 25 = .ok (.aload_n 0, 1) := by decide +kernel
theorem dX7_init_26 : decode cX7_init 26 = .ok (.bipush 12, 2) := by decide +kernel
theorem dX7_init_28 : decode cX7_init 28 = .ok (.newarray .int, 2) := by decide +kernel
theorem dX7_init_30 : decode cX7_init 30 = .ok (.putfield 24, 3) := by decide +kernel
theorem dX7_init_33 : decode cX7_init 33 = .ok (.aload_n 0, 1) := by decide +kernel
theorem dX7_init_34 : decode cX7_init 34 = .ok (.new 9, 3) := by decide +kernel
theorem dX7_init_37 : decode cX7_init 37 = .ok (.dup, 1) := by decide +kernel
theorem dX7_init_38 : decode cX7_init 38 = .ok (.bipush 6, 2) := by decide +kernel
theorem dX7_init_40 : decode cX7_init 40 = .ok (.invokespecial 11, 3) := by decide +kernel
theorem dX7_init_43 : decode cX7_init 43 = .ok (.putfield 27, 3) := by decide +kernel
theorem dX7_init_46 : decode cX7_init 46 = .ok (.aload_n 0, 1) := by decide +kernel
theorem dX7_init_47 : decode cX7_init 47 = .ok (.iconst 4, 1) := by decide +kernel
theorem dX7_init_48 : decode cX7_init 48 = .ok (.newarray .int, 2) := by decide +kernel
theorem dX7_init_50 : decode cX7_init 50 = .ok (.putfield 30, 3) := by decide +kernel
theorem dX7_init_53 : decode cX7_init 53 = .ok (.aload_n 0, 1) := by decide +kernel
theorem dX7_init_54 : decode cX7_init 54 = .ok (.iconst 3, 1) := by decide +kernel
theorem dX7_init_55 : decode cX7_init 55 = .ok (.putfield 33, 3) := by decide +kernel
theorem dX7_init_58 : decode cX7_init 58 = .ok (.aload_n 0, 1) := by decide +kernel
theorem dX7_init_59 : decode cX7_init 59 = .ok (.getfield 30, 3) := by decide +kernel
theorem dX7_init_62 : decode cX7_init 62 = .ok (.iconst 0, 1) := by decide +kernel
theorem dX7_init_63 : decode cX7_init 63 = .ok (.iconst 2, 1) := by decide +kernel
theorem dX7_init_64 : decode cX7_init 64 = .ok (.iastore, 1) := by decide +kernel
theorem dX7_init_65 : decode cX7_init 65 = .ok (.aload_n 0, 1) := by decide +kernel
theorem dX7_init_66 : decode cX7_init 66 = .ok (.getfield 30, 3) := by decide +kernel
theorem dX7_init_69 : decode cX7_init 69 = .ok (.iconst 1, 1) := by decide +kernel
theorem dX7_init_70 : decode cX7_init 70 = .ok (.iconst 3, 1) := by decide +kernel
theorem dX7_init_71 : decode cX7_init 71 = .ok (.iastore, 1) := by decide +kernel
theorem dX7_init_72 : decode cX7_init 72 = .ok (.aload_n 0, 1) := by decide +kernel
theorem dX7_init_73 : decode cX7_init 73 = .ok (.getfield 30, 3) := by decide +kernel
theorem dX7_init_76 : decode cX7_init 76 = .ok (.iconst 2, 1) := by decide +kernel
theorem dX7_init_77 : decode cX7_init 77 = .ok (.iconst 1, 1) := by decide +kernel
theorem dX7_init_78 : decode cX7_init 78 = .ok (.iastore, 1) := by decide +kernel
theorem dX7_init_79 : decode cX7_init 79 = .ok (.aload_n 0, 1) := by decide +kernel
theorem dX7_init_80 : decode cX7_init 80 = .ok (.getfield 30, 3) := by decide +kernel
theorem dX7_init_83 : decode cX7_init 83 = .ok (.iconst 3, 1) := by decide +kernel
theorem dX7_init_84 : decode cX7_init 84 = .ok (.iconst 2, 1) := by decide +kernel
theorem dX7_init_85 : decode cX7_init 85 = .ok (.iastore, 1) := by decide +kernel
theorem dX7_init_86 : decode cX7_init 86 = .ok (.return_, 1) := by decide +kernel
theorem dX7_copyFrom_0 : decode cX7_copyFrom 0 = .ok (.aload_n 0, 1) := by decide +kernel
theorem dX7_copyFrom_1 : decode cX7_copyFrom 1 = .ok (.getfield 14, 3) := by decide +kernel
theorem dX7_copyFrom_4 : decode cX7_copyFrom 4 = .ok (.aload_n 1, 1) := by decide +kernel
theorem dX7_copyFrom_5 : decode cX7_copyFrom 5 = .ok (.getfield 14, 3) := by decide +kernel
theorem dX7_copyFrom_8 : decode cX7_copyFrom 8 = .ok (.invokevirtual 37, 3) := by decide +kernel
theorem dX7_copyFrom_11 : decode cX7_copyFrom 11 = .ok (.aload_n 1, 1) := by decide +kernel
theorem dX7_copyFrom_12 : decode cX7_copyFrom 12 = .ok (.getfield 20, 3) := by decide +kernel
theorem dX7_copyFrom_15 : decode cX7_copyFrom 15 = .ok (.aload_n 0, 1) := by decide +kernel
theorem dX7_copyFrom_16 : decode cX7_copyFrom 16 = .ok (.getfield 20, 3) := by decide +kernel
theorem dX7_copyFrom_19 : decode cX7_copyFrom 19 = .ok (.invokestatic 41, 3) := by decide +kernel
theorem dX7_copyFrom_22 : decode cX7_copyFrom 22 = .ok (.aload_n 1, 1) := by decide +kernel
theorem dX7_copyFrom_23 : decode cX7_copyFrom 23 = .ok (.getfield 24, 3) := by decide +kernel
theorem dX7_copyFrom_26 : decode cX7_copyFrom 26 = .ok (.aload_n 0, 1) := by decide +kernel
theorem dX7_copyFrom_27 : decode cX7_copyFrom 27 = .ok (.getfield 24, 3) := by decide +kernel
theorem dX7_copyFrom_30 : decode cX7_copyFrom 30 = .ok (.invokestatic 41, 3) := by decide +kernel
theorem dX7_copyFrom_33 : decode cX7_copyFrom 33 = .ok (.aload_n 0, 1) := by decide +kernel
theorem dX7_copyFrom_34 : decode cX7_copyFrom 34 = .ok (.getfield 27, 3) := by decide +kernel
theorem dX7_copyFrom_37 : decode cX7_copyFrom 37 = .ok (.aload_n 1, 1) := by decide +kernel
theorem dX7_copyFrom_38 : decode cX7_copyFrom 38 = .ok (.getfield 27, 3) := by decide +kernel
theorem dX7_copyFrom_41 : decode cX7_copyFrom 41 = .ok (.invokevirtual 37, 3) := by decide +kernel
theorem dX7_copyFrom_44 : decode cX7_copyFrom 44 = .ok (.aload_n 1, 1) := by decide +kernel
theorem dX7_copyFrom_45 : decode cX7_copyFrom 45 = .ok (.getfield 30, 3) := by decide +kernel
theorem dX7_copyFrom_48 : decode cX7_copyFrom 48 = .ok (.aload_n 0, 1) := by decide +kernel
theorem dX7_copyFrom_49 : decode cX7_copyFrom 49 = .ok (.getfield 30, 3) := by decide +kernel
theorem dX7_copyFrom_52 : decode cX7_copyFrom 52 = .ok (.invokestatic 41, 3) := by decide +kernel
theorem dX7_copyFrom_55 : decode cX7_copyFrom 55 = .ok (.aload_n 0, 1) := by decide +kernel
theorem dX7_copyFrom_56 : decode cX7_copyFrom 56 = .ok (.aload_n 1, 1) := by decide +kernel
theorem dX7_copyFrom_57 : decode cX7_copyFrom 57 = .ok (.getfield 33, 3) := by decide +kernel
theorem dX7_copyFrom_60 : decode cX7_copyFrom 60 = .ok (.putfield 33, 3) := by decide +kernel
theorem dX7_copyFrom_63 : decode cX7_copyFrom 63 = .ok (.return_, 1) := by decide +kernel
theorem dX7_takeSaying_0 : decode cX7_takeSaying 0 = .ok (.aload_n 0, 1) := by decide +kernel
theorem dX7_takeSaying_1 : decode cX7_takeSaying 1 = .ok (.getfield 14, 3) := by decide +kernel
theorem dX7_takeSaying_4 : decode cX7_takeSaying 4 = .ok (.aload_n 1, 1) := by decide +kernel
theorem dX7_takeSaying_5 : decode cX7_takeSaying 5 = .ok (.invokevirtual 45, 3) := by decide +kernel
theorem dX7_takeSaying_8 : decode cX7_takeSaying 8 = .ok (.istore 4, 2) := by decide +kernel
theorem dX7_takeSaying_10 : decode cX7_takeSaying 10 = .ok (.aload_n 0, 1) := by decide +kernel
theorem dX7_takeSaying_11 : decode cX7_takeSaying 11 = .ok (.getfield 14, 3) := by decide +kernel
theorem dX7_takeSaying_14 : decode cX7_takeSaying 14 = .ok (.iload 4, 2) := by decide +kernel
theorem dX7_takeSaying_16 : decode cX7_takeSaying 16 = .ok (.invokevirtual 49, 3) := by decide +kernel
theorem dX7_takeSaying_19 : decode cX7_takeSaying 19 = .ok (.ifCond .eq 19, 3) := by decide +kernel
theorem dX7_takeSaying_22 : decode cX7_takeSaying 22 = .ok (.aload_n 0, 1) := by decide +kernel
theorem dX7_takeSaying_23 : decode cX7_takeSaying 23 = .ok (.getfield 20, 3) := by decide +kernel
theorem dX7_takeSaying_26 : decode cX7_takeSaying 26 = .ok (.iload 4, 2) := by decide +kernel
theorem dX7_takeSaying_28 : decode cX7_takeSaying 28 = .ok (.iload_n 2, 1) := by decide +kernel
theorem dX7_takeSaying_29 : decode cX7_takeSaying 29 = .ok (.iastore, 1) := by decide +kernel
theorem dX7_takeSaying_30 : decode cX7_takeSaying 30 = .ok (.aload_n 0, 1) := by decide +kernel
theorem dX7_takeSaying_31 : decode cX7_takeSaying 31 = .ok (.getfield 24, 3) := by decide +kernel
theorem dX7_takeSaying_34 : decode cX7_takeSaying 34 = .ok (.iload 4, 2) := by decide +kernel
theorem dX7_takeSaying_36 : decode cX7_takeSaying 36 = .ok (.iload_n 3, 1) := by decide +kernel
theorem dX7_takeSaying_37 : decode cX7_takeSaying 37 = .ok (.iastore, 1) := by decide +kernel
theorem dX7_takeSaying_38 : decode cX7_takeSaying 38 = .ok (.iload 4, 2) := by decide +kernel
theorem dX7_takeSaying_40 : decode cX7_takeSaying 40 = .ok (.ireturn, 1) := by decide +kernel
theorem dX7_dropSaying_0 : decode cX7_dropSaying 0 = .ok (.aload_n 0, 1) := by decide +kernel
theorem dX7_dropSaying_1 : decode cX7_dropSaying 1 = .ok (.getfield 14, 3) := by decide +kernel
theorem dX7_dropSaying_4 : decode cX7_dropSaying 4 = .ok (.iload_n 1, 1) := by decide +kernel
theorem dX7_dropSaying_5 : decode cX7_dropSaying 5 = .ok (.invokevirtual 53, 3) := by decide +kernel
theorem dX7_dropSaying_8 : decode cX7_dropSaying 8 = .ok (.aload_n 0, 1) := by decide +kernel
theorem dX7_dropSaying_9 : decode cX7_dropSaying 9 = .ok (.getfield 20, 3) := by decide +kernel
theorem dX7_dropSaying_12 : decode cX7_dropSaying 12 = .ok (.iload_n 1, 1) := by decide +kernel
theorem dX7_dropSaying_13 : decode cX7_dropSaying 13 = .ok (.iconst 1, 1) := by decide +kernel
theorem dX7_dropSaying_14 : decode cX7_dropSaying 14 = .ok (.invokestatic 56, 3) := by decide +kernel
theorem dX7_dropSaying_17 : decode cX7_dropSaying 17 = .ok (.aload_n 0, 1) := by decide +kernel
theorem dX7_dropSaying_18 : decode cX7_dropSaying 18 = .ok (.getfield 24, 3) := by decide +kernel
theorem dX7_dropSaying_21 : decode cX7_dropSaying 21 = .ok (.iload_n 1, 1) := by decide +kernel
theorem dX7_dropSaying_22 : decode cX7_dropSaying 22 = .ok (.iconst 1, 1) := by decide +kernel
theorem dX7_dropSaying_23 : decode cX7_dropSaying 23 = .ok (.invokestatic 56, 3) := by decide +kernel
theorem dX7_dropSaying_26 : decode cX7_dropSaying 26 = .ok (.return_, 1) := by decide +kernel
theorem dX7_place_0 : decode cX7_place 0 = .ok (.iconst 0, 1) := by decide +kernel
theorem dX7_place_1 : decode cX7_place 1 = .ok (.istore_n 2, 1) := by decide +kernel
theorem dX7_place_2 : decode cX7_place 2 = .ok (.iconst 0, 1) := by decide +kernel
theorem dX7_place_3 : decode cX7_place 3 = .ok (.istore_n 3, 1) := by decide +kernel
theorem dX7_place_4 : decode cX7_place 4 = .ok (.iload_n 3, 1) := by decide +kernel
theorem dX7_place_5 : decode cX7_place 5 = .ok (.aload_n 0, 1) := by decide +kernel
theorem dX7_place_6 : decode cX7_place 6 = .ok (.getfield 14, 3) := by decide +kernel
theorem dX7_place_9 : decode cX7_place 9 = .ok (.getfield 60, 3) := by decide +kernel
theorem dX7_place_12 : decode cX7_place 12 = .ok (.if_icmp .ge 26, 3) := by decide +kernel
theorem dX7_place_15 : decode cX7_place 15 = .ok (.iload_n 2, 1) := by decide +kernel
theorem dX7_place_16 : decode cX7_place 16 = .ok (.aload_n 0, 1) := by decide +kernel
theorem dX7_place_17 : decode cX7_place 17 = .ok (.iload_n 3, 1) := by decide +kernel
theorem dX7_place_18 : decode cX7_place 18 = .ok (.iload_n 1, 1) := by decide +kernel
theorem dX7_place_19 : decode cX7_place 19 = .ok (.invokevirtual 63, 3) := by decide +kernel
theorem dX7_place_22 : decode cX7_place 22 = .ok (.ifCond .eq 7, 3) := by decide +kernel
theorem dX7_place_25 : decode cX7_place 25 = .ok (.iconst 1, 1) := by decide +kernel
theorem dX7_place_26 : decode cX7_place 26 = .ok (.goto 4, 3) := by decide +kernel
theorem dX7_place_29 : decode cX7_place 29 = .ok (.iconst 0, 1) := by decide +kernel
theorem dX7_place_30 : decode cX7_place 30 = .ok (.iadd, 1) := by decide +kernel
theorem dX7_place_31 : decode cX7_place 31 = .ok (.istore_n 2, 1) := by decide +kernel
theorem dX7_place_32 : decode cX7_place 32 = .ok (.iinc 3 1, 3) := by decide +kernel
theorem dX7_place_35 : decode cX7_place 35 = .ok (.goto (-31), 3) := by decide +kernel
theorem dX7_place_38 : decode cX7_place 38 = .ok (.iload_n 2, 1) := by decide +kernel
theorem dX7_place_39 : decode cX7_place 39 = .ok (.ireturn, 1) := by decide +kernel
theorem dX7_isOlder_0 : decode cX7_isOlder 0 = .ok (.aload_n 0, 1) := by decide +kernel
theorem dX7_isOlder_1 : decode cX7_isOlder 1 = .ok (.getfield 14, 3) := by decide +kernel
theorem dX7_isOlder_4 : decode cX7_isOlder 4 = .ok (.iload_n 1, 1) := by decide +kernel
theorem dX7_isOlder_5 : decode cX7_isOlder 5 = .ok (.invokevirtual 49, 3) := by decide +kernel
theorem dX7_isOlder_8 : decode cX7_isOlder 8 = .ok (.ifCond .eq 53, 3) := by decide +kernel
theorem dX7_isOlder_11 : decode cX7_isOlder 11 = .ok (.aload_n 0, 1) := by decide +kernel
theorem dX7_isOlder_12 : decode cX7_isOlder 12 = .ok (.getfield 14, 3) := by decide +kernel
theorem dX7_isOlder_15 : decode cX7_isOlder 15 = .ok (.iload_n 2, 1) := by decide +kernel
theorem dX7_isOlder_16 : decode cX7_isOlder 16 = .ok (.invokevirtual 49, 3) := by decide +kernel
theorem dX7_isOlder_19 : decode cX7_isOlder 19 = .ok (.ifCond .eq 42, 3) := by decide +kernel
theorem dX7_isOlder_22 : decode cX7_isOlder 22 = .ok (.aload_n 0, 1) := by decide +kernel
theorem dX7_isOlder_23 : decode cX7_isOlder 23 = .ok (.getfield 20, 3) := by decide +kernel
theorem dX7_isOlder_26 : decode cX7_isOlder 26 = .ok (.iload_n 1, 1) := by decide +kernel
theorem dX7_isOlder_27 : decode cX7_isOlder 27 = .ok (.iaload, 1) := by decide +kernel
theorem dX7_isOlder_28 : decode cX7_isOlder 28 = .ok (.aload_n 0, 1) := by decide +kernel
theorem dX7_isOlder_29 : decode cX7_isOlder 29 = .ok (.getfield 20, 3) := by decide +kernel
theorem dX7_isOlder_32 : decode cX7_isOlder 32 = .ok (.iload_n 2, 1) := by decide +kernel
theorem dX7_isOlder_33 : decode cX7_isOlder 33 = .ok (.iaload, 1) := by decide +kernel
theorem dX7_isOlder_34 : decode cX7_isOlder 34 = .ok (.if_icmp .lt 23, 3) := by decide +kernel
theorem dX7_isOlder_37 : decode cX7_isOlder 37 = .ok (.aload_n 0, 1) := by decide +kernel
theorem dX7_isOlder_38 : decode cX7_isOlder 38 = .ok (.getfield 20, 3) := by decide +kernel
theorem dX7_isOlder_41 : decode cX7_isOlder 41 = .ok (.iload_n 1, 1) := by decide +kernel
theorem dX7_isOlder_42 : decode cX7_isOlder 42 = .ok (.iaload, 1) := by decide +kernel
theorem dX7_isOlder_43 : decode cX7_isOlder 43 = .ok (.aload_n 0, 1) := by decide +kernel
theorem dX7_isOlder_44 : decode cX7_isOlder 44 = .ok (.getfield 20, 3) := by decide +kernel
theorem dX7_isOlder_47 : decode cX7_isOlder 47 = .ok (.iload_n 2, 1) := by decide +kernel
theorem dX7_isOlder_48 : decode cX7_isOlder 48 = .ok (.iaload, 1) := by decide +kernel
theorem dX7_isOlder_49 : decode cX7_isOlder 49 = .ok (.if_icmp .ne 12, 3) := by decide +kernel
theorem dX7_isOlder_52 : decode cX7_isOlder 52 = .ok (.iload_n 1, 1) := by decide +kernel
theorem dX7_isOlder_53 : decode cX7_isOlder 53 = .ok (.iload_n 2, 1) := by decide +kernel
theorem dX7_isOlder_54 : decode cX7_isOlder 54 = .ok (.if_icmp .ge 7, 3) := by decide +kernel
theorem dX7_isOlder_57 : decode cX7_isOlder 57 = .ok (.iconst 1, 1) := by decide +kernel
theorem dX7_isOlder_58 : decode cX7_isOlder 58 = .ok (.goto 4, 3) := by decide +kernel
theorem dX7_isOlder_61 : decode cX7_isOlder 61 = .ok (.iconst 0, 1) := by decide +kernel
theorem dX7_isOlder_62 : decode cX7_isOlder 62 = .ok (.ireturn, 1) := by decide +kernel
theorem dX7_sortByAge_0 : decode cX7_sortByAge 0 = .ok (.iconst 0, 1) := by decide +kernel
theorem dX7_sortByAge_1 : decode cX7_sortByAge 1 = .ok (.istore_n 2, 1) := by decide +kernel
theorem dX7_sortByAge_2 : decode cX7_sortByAge 2 = .ok (.iload_n 2, 1) := by decide +kernel
theorem dX7_sortByAge_3 : decode cX7_sortByAge 3 = .ok (.aload_n 0, 1) := by decide +kernel
theorem dX7_sortByAge_4 : decode cX7_sortByAge 4 = .ok (.getfield 14, 3) := by decide +kernel
theorem dX7_sortByAge_7 : decode cX7_sortByAge 7 = .ok (.getfield 60, 3) := by decide +kernel
theorem dX7_sortByAge_10 : decode cX7_sortByAge 10 = .ok (.if_icmp .ge 25, 3) := by decide +kernel
theorem dX7_sortByAge_13 : decode cX7_sortByAge 13 = .ok (.aload_n 0, 1) := by decide +kernel
theorem dX7_sortByAge_14 : decode cX7_sortByAge 14 = .ok (.iload_n 2, 1) := by decide +kernel
theorem dX7_sortByAge_15 : decode cX7_sortByAge 15 = .ok (.invokevirtual 67, 3) := by decide +kernel
theorem dX7_sortByAge_18 : decode cX7_sortByAge 18 = .ok (.istore_n 3, 1) := by decide +kernel
theorem dX7_sortByAge_19 : decode cX7_sortByAge 19 = .ok (.iload_n 3, 1) := by decide +kernel
theorem dX7_sortByAge_20 : decode cX7_sortByAge 20 = .ok (.aload_n 1, 1) := by decide +kernel
theorem dX7_sortByAge_21 : decode cX7_sortByAge 21 = .ok (.arraylength, 1) := by decide +kernel
theorem dX7_sortByAge_22 : decode cX7_sortByAge 22 = .ok (.if_icmp .ge 7, 3) := by decide +kernel
theorem dX7_sortByAge_25 : decode cX7_sortByAge 25 = .ok (.aload_n 1, 1) := by decide +kernel
theorem dX7_sortByAge_26 : decode cX7_sortByAge 26 = .ok (.iload_n 3, 1) := by decide +kernel
theorem dX7_sortByAge_27 : decode cX7_sortByAge 27 = .ok (.iload_n 2, 1) := by decide +kernel
theorem dX7_sortByAge_28 : decode cX7_sortByAge 28 = .ok (.iastore, 1) := by decide +kernel
theorem dX7_sortByAge_29 : decode cX7_sortByAge 29 = .ok (.iinc 2 1, 3) := by decide +kernel
theorem dX7_sortByAge_32 : decode cX7_sortByAge 32 = .ok (.goto (-30), 3) := by decide +kernel
theorem dX7_sortByAge_35 : decode cX7_sortByAge 35 = .ok (.return_, 1) := by decide +kernel
theorem dX8_init_0 : decode cX8_init 0 = .ok (.aload_n 0, 1) := by decide +kernel
theorem dX8_init_1 : decode cX8_init 1 = .ok (.invokespecial 1, 3) := by decide +kernel
theorem dX8_init_4 : decode cX8_init 4 = .ok (.aload_n 0, 1) := by decide +kernel
theorem dX8_init_5 : decode cX8_init 5 = .ok (.new 7, 3) := by decide +kernel
theorem dX8_init_8 : decode cX8_init 8 = .ok (.dup, 1) := by decide +kernel
theorem dX8_init_9 : decode cX8_init 9 = .ok (.invokespecial 9, 3) := by decide +kernel
theorem dX8_init_12 : decode cX8_init 12 = .ok (.putfield 10, 3) := by decide +kernel
theorem dX8_init_15 : decode cX8_init 15 = .ok (.aload_n 0, 1) := by decide +kernel
theorem dX8_init_16 : decode cX8_init 16 = .ok (.new 16, 3) := by decide +kernel
theorem dX8_init_19 : decode cX8_init 19 = .ok (.dup, 1) := by decide +kernel
theorem dX8_init_20 : decode cX8_init 20 = .ok (.invokespecial 18, 3) := by decide +kernel
theorem dX8_init_23 : decode cX8_init 23 = .ok (.putfield 19, 3) := by decide +kernel
theorem dX8_init_26 : decode cX8_init 26 = .ok (.aload_n 0, 1) := by decide +kernel
theorem dX8_init_27 : decode cX8_init 27 = .ok (.new 23, 3) := by decide +kernel
theorem dX8_init_30 : decode cX8_init 30 = .ok (.dup, 1) := by decide +kernel
theorem dX8_init_31 : decode cX8_init 31 = .ok (.invokespecial 25, 3) := by decide +kernel
theorem dX8_init_34 : decode cX8_init 34 = .ok (.putfield 26, 3) := by decide +kernel
theorem dX8_init_37 : decode cX8_init 37 = .ok (.aload_n 0, 1) := by decide +kernel
theorem dX8_init_38 : decode cX8_init 38 = .ok (.new 30, 3) := by decide +kernel
theorem dX8_init_41 : decode cX8_init 41 = .ok (.dup, 1) := by decide +kernel
theorem dX8_init_42 : decode cX8_init 42 = .ok (.invokespecial 32, 3) := by decide +kernel
theorem dX8_init_45 : decode cX8_init 45 = .ok (.putfield 33, 3) := by decide +kernel
theorem dX8_init_48 : decode cX8_init 48 = .ok (.aload_n 0, 1) := by decide +kernel
theorem dX8_init_49 : decode cX8_init 49 = .ok (.new 37, 3) := by decide +kernel
theorem dX8_init_52 : decode cX8_init 52 = .ok (.dup, 1) := by decide +kernel
theorem dX8_init_53 : decode cX8_init 53 = .ok (.invokespecial 39, 3) := by decide +kernel
theorem dX8_init_56 : decode cX8_init 56 = .ok (.putfield 40, 3) := by decide +kernel
theorem dX8_init_59 : decode cX8_init 59 = .ok (.aload_n 0, 1) := by decide +kernel
theorem dX8_init_60 : decode cX8_init 60 = .ok (.new 44, 3) := by decide +kernel
theorem dX8_init_63 : decode cX8_init 63 = .ok (.dup, 1) := by decide +kernel
theorem dX8_init_64 : decode cX8_init 64 = .ok (.invokespecial 46, 3) := by decide +kernel
theorem dX8_init_67 : decode cX8_init 67 = .ok (.putfield 47, 3) := by decide +kernel
theorem dX8_init_70 : decode cX8_init 70 = .ok (.aload_n 0, 1) := by decide +kernel
theorem dX8_init_71 : decode cX8_init 71 = .ok (.new 51, 3) := by decide +kernel
theorem dX8_init_74 : decode cX8_init 74 = .ok (.dup, 1) := by decide +kernel
theorem dX8_init_75 : decode cX8_init 75 = .ok (.invokespecial 53, 3) := by decide +kernel
theorem dX8_init_78 : decode cX8_init 78 = .ok (.putfield 54, 3) := by decide +kernel
theorem dX8_init_81 : decode cX8_init 81 = .ok (.aload_n 0, 1) := by decide +kernel
theorem dX8_init_82 : decode cX8_init 82 = .ok (.bipush 12, 2) := by decide +kernel
theorem dX8_init_84 : decode cX8_init 84 = .ok (.newarray .int, 2) := by decide +kernel
theorem dX8_init_86 : decode cX8_init 86 = .ok (.putfield 58, 3) := by decide +kernel
theorem dX8_init_89 : decode cX8_init 89 = .ok (.return_, 1) := by decide +kernel
theorem dX8_append_0 : decode cX8_append 0 = .ok (.iload_n 1, 1) := by decide +kernel
theorem dX8_append_1 : decode cX8_append 1 = .ok (.ifCond .lt 9, 3) := by decide +kernel
theorem dX8_append_4 : decode cX8_append 4 = .ok (.iload_n 1, 1) := by decide +kernel
theorem dX8_append_5 : decode cX8_append 5 = .ok (.bipush 64, 2) := by decide +kernel
theorem dX8_append_7 : decode cX8_append 7 = .ok (.if_icmp .le 5, 3) := by decide +kernel
theorem dX8_append_10 : decode cX8_append 10 = .ok (.iconst (-1), 1) := by decide +kernel
theorem dX8_append_11 : decode cX8_append 11 = .ok (.ireturn, 1) := by decide +kernel
theorem dX8_append_12 : decode cX8_append 12 = .ok (.aload_n 0, 1) := by decide +kernel
theorem dX8_append_13 : decode cX8_append 13 = .ok (.getfield 10, 3) := by decide +kernel
theorem dX8_append_16 : decode cX8_append 16 = .ok (.getfield 62, 3) := by decide +kernel
theorem dX8_append_19 : decode cX8_append 19 = .ok (.bipush 8, 2) := by decide +kernel
theorem dX8_append_21 : decode cX8_append 21 = .ok (.if_icmp .lt 6, 3) := by decide +kernel
theorem dX8_append_24 : decode cX8_append 24 = .ok (.bipush (-3), 2) := by decide +kernel
theorem dX8_append_26 : decode cX8_append 26 = .ok (.ireturn, 1) := by decide +kernel
theorem dX8_append_27 : decode cX8_append 27 = .ok (.aload_n 0, 1) := by decide +kernel
theorem dX8_append_28 : decode cX8_append 28 = .ok (.getfield 10, 3) := by decide +kernel
theorem dX8_append_31 : decode cX8_append 31 = .ok (.iload_n 1, 1) := by decide +kernel
theorem dX8_append_32 : decode cX8_append 32 = .ok (.invokevirtual 66, 3) := by decide +kernel
theorem dX8_append_35 : decode cX8_append 35 = .ok (.aload_n 0, 1) := by decide +kernel
theorem dX8_append_36 : decode cX8_append 36 = .ok (.getfield 10, 3) := by decide +kernel
theorem dX8_append_39 : decode cX8_append 39 = .ok (.getfield 62, 3) := by decide +kernel
theorem dX8_append_42 : decode cX8_append 42 = .ok (.ireturn, 1) := by decide +kernel
theorem dX8_clear_0 : decode cX8_clear 0 = .ok (.aload_n 0, 1) := by decide +kernel
theorem dX8_clear_1 : decode cX8_clear 1 = .ok (.getfield 10, 3) := by decide +kernel
theorem dX8_clear_4 : decode cX8_clear 4 = .ok (.getfield 62, 3) := by decide +kernel
theorem dX8_clear_7 : decode cX8_clear 7 = .ok (.istore_n 1, 1) := by decide +kernel
theorem dX8_clear_8 : decode cX8_clear 8 = .ok (.aload_n 0, 1) := by decide +kernel
theorem dX8_clear_9 : decode cX8_clear 9 = .ok (.getfield 10, 3) := by decide +kernel
theorem dX8_clear_12 : decode cX8_clear 12 = .ok (.iconst 0, 1) := by decide +kernel
theorem dX8_clear_13 : decode cX8_clear 13 = .ok (.putfield 62, 3) := by decide +kernel
theorem dX8_clear_16 : decode cX8_clear 16 = .ok (.iload_n 1, 1) := by decide +kernel
theorem dX8_clear_17 : decode cX8_clear 17 = .ok (.ireturn, 1) := by decide +kernel
theorem dX8_addSaying_0 : decode cX8_addSaying 0 = .ok (.iload_n 1, 1) := by decide +kernel
theorem dX8_addSaying_1 : decode cX8_addSaying 1 = .ok (.sipush (-3000), 3) := by decide +kernel
theorem dX8_addSaying_4 : decode cX8_addSaying 4 = .ok (.if_icmp .lt 20, 3) := by decide +kernel
theorem dX8_addSaying_7 : decode cX8_addSaying 7 = .ok (.iload_n 1, 1) := by decide +kernel
theorem dX8_addSaying_8 : decode cX8_addSaying 8 = .ok (.sipush 2100, 3) := by decide +kernel
theorem dX8_addSaying_11 : decode cX8_addSaying 11 = .ok (.if_icmp .gt 13, 3) := by decide +kernel
theorem dX8_addSaying_14 : decode cX8_addSaying 14 = .ok (.iload_n 2, 1) := by decide +kernel
theorem dX8_addSaying_15 : decode cX8_addSaying 15 = .ok (.ifCond .lt 9, 3) := by decide +kernel
theorem dX8_addSaying_18 : decode cX8_addSaying 18 = .ok (.iload_n 2, 1) := by decide +kernel
theorem dX8_addSaying_19 : decode cX8_addSaying 19 = .ok (.bipush 9, 2) := by decide +kernel
theorem dX8_addSaying_21 : decode cX8_addSaying 21 = .ok (.if_icmp .le 5, 3) := by decide +kernel
theorem dX8_addSaying_24 : decode cX8_addSaying 24 = .ok (.iconst (-1), 1) := by decide +kernel
theorem dX8_addSaying_25 : decode cX8_addSaying 25 = .ok (.ireturn, 1) := by decide +kernel
theorem dX8_addSaying_26 : decode cX8_addSaying 26 = .ok (.aload_n 0, 1) := by decide +kernel
theorem dX8_addSaying_27 : decode cX8_addSaying 27 = .ok (.getfield 10, 3) := by decide +kernel
theorem dX8_addSaying_30 : decode cX8_addSaying 30 = .ok (.getfield 62, 3) := by decide +kernel
theorem dX8_addSaying_33 : decode cX8_addSaying 33 = .ok (.ifCond .eq 20, 3) := by decide +kernel
theorem dX8_addSaying_36 : decode cX8_addSaying 36 = .ok (.aload_n 0, 1) := by decide +kernel
theorem dX8_addSaying_37 : decode cX8_addSaying 37 = .ok (.getfield 10, 3) := by decide +kernel
theorem dX8_addSaying_40 : decode cX8_addSaying 40 = .ok (.invokevirtual 70, 3) := by decide +kernel
theorem dX8_addSaying_43 : decode cX8_addSaying 43 = .ok (.aload_n 0, 1) := by decide +kernel
theorem dX8_addSaying_44 : decode cX8_addSaying 44 = .ok (.getfield 10, 3) := by decide +kernel
theorem dX8_addSaying_47 : decode cX8_addSaying 47 = .ok (.getfield 62, 3) := by decide +kernel
theorem dX8_addSaying_50 : decode cX8_addSaying 50 = .ok (.if_icmp .ge 6, 3) := by decide +kernel
theorem dX8_addSaying_53 : decode cX8_addSaying 53 = .ok (.bipush (-2), 2) := by decide +kernel
theorem dX8_addSaying_55 : decode cX8_addSaying 55 = .ok (.ireturn, 1) := by decide +kernel
theorem dX8_addSaying_56 : decode cX8_addSaying 56 = .ok (.aload_n 0, 1) := by decide +kernel
theorem dX8_addSaying_57 : decode cX8_addSaying 57 = .ok (.getfield 19, 3) := by decide +kernel
theorem dX8_addSaying_60 : decode cX8_addSaying 60 = .ok (.getfield 74, 3) := by decide +kernel
theorem dX8_addSaying_63 : decode cX8_addSaying 63 = .ok (.invokevirtual 78, 3) := by decide +kernel
theorem dX8_addSaying_66 : decode cX8_addSaying 66 = .ok (.ifCond .eq 6, 3) := by decide +kernel
theorem dX8_addSaying_69 : decode cX8_addSaying 69 = .ok (.bipush (-3), 2) := by decide +kernel
theorem dX8_addSaying_71 : decode cX8_addSaying 71 = .ok (.ireturn, 1) := by decide +kernel
theorem dX8_addSaying_72 : decode cX8_addSaying 72 = .ok (.aload_n 0, 1) := by decide +kernel
theorem dX8_addSaying_73 : decode cX8_addSaying 73 = .ok (.getfield 26, 3) := by decide +kernel
theorem dX8_addSaying_76 : decode cX8_addSaying 76 = .ok (.aload_n 0, 1) := by decide +kernel
theorem dX8_addSaying_77 : decode cX8_addSaying 77 = .ok (.getfield 19, 3) := by decide +kernel
theorem dX8_addSaying_80 : decode cX8_addSaying 80 = .ok (.invokevirtual 84, 3) := by decide +kernel
theorem dX8_addSaying_83 : decode cX8_addSaying 83 = .ok (.aload_n 0, 1) := by decide +kernel
theorem dX8_addSaying_84 : decode cX8_addSaying 84 = .ok (.getfield 19, 3) := by decide +kernel
theorem dX8_addSaying_87 : decode cX8_addSaying 87 = .ok (.aload_n 0, 1) := by decide +kernel
theorem dX8_addSaying_88 : decode cX8_addSaying 88 = .ok (.getfield 10, 3) := by decide +kernel
theorem dX8_addSaying_91 : decode cX8_addSaying 91 = .ok (.iload_n 1, 1) := by decide +kernel
theorem dX8_addSaying_92 : decode cX8_addSaying 92 = .ok (.iload_n 2, 1) := by decide +kernel
theorem dX8_addSaying_93 : decode cX8_addSaying 93 = .ok (.invokevirtual 88, 3) := by decide +kernel
theorem dX8_addSaying_96 : decode cX8_addSaying 96 = .ok (.istore_n 3, 1) := by decide +kernel
theorem dX8_addSaying_97 : decode cX8_addSaying 97 = .ok (.aload_n 0, 1) := by decide +kernel
theorem dX8_addSaying_98 : decode cX8_addSaying 98 = .ok (.getfield 10, 3) := by decide +kernel
theorem dX8_addSaying_101 : decode cX8_addSaying 101 = .ok (.iconst 0, 1) := by decide +kernel
theorem dX8_addSaying_102 : decode cX8_addSaying 102 = .ok (.putfield 62, 3) := by decide +kernel
theorem dX8_addSaying_105 : decode cX8_addSaying 105 = .ok (.iload_n 3, 1) := by decide +kernel
theorem dX8_addSaying_106 : decode cX8_addSaying 106 = .ok (.ireturn, 1) := by decide +kernel
theorem dX8_removeSaying_0 : decode cX8_removeSaying 0 = .ok (.aload_n 0, 1) := by decide +kernel
theorem dX8_removeSaying_1 : decode cX8_removeSaying 1 = .ok (.getfield 19, 3) := by decide +kernel
theorem dX8_removeSaying_4 : decode cX8_removeSaying 4 = .ok (.getfield 74, 3) := by decide +kernel
theorem dX8_removeSaying_7 : decode cX8_removeSaying 7 = .ok (.iload_n 1, 1) := by decide +kernel
theorem dX8_removeSaying_8 : decode cX8_removeSaying 8 = .ok (.invokevirtual 92, 3) := by decide +kernel
theorem dX8_removeSaying_11 : decode cX8_removeSaying 11 = .ok (.ifCond .ne 5, 3) := by decide +kernel
theorem dX8_removeSaying_14 : decode cX8_removeSaying 14 = .ok (.iconst (-1), 1) := by decide +kernel
theorem dX8_removeSaying_15 : decode cX8_removeSaying 15 = .ok (.ireturn, 1) := by decide +kernel
theorem dX8_removeSaying_16 : decode cX8_removeSaying 16 = .ok (.aload_n 0, 1) := by decide +kernel
theorem dX8_removeSaying_17 : decode cX8_removeSaying 17 = .ok (.getfield 26, 3) := by decide +kernel
theorem dX8_removeSaying_20 : decode cX8_removeSaying 20 = .ok (.aload_n 0, 1) := by decide +kernel
theorem dX8_removeSaying_21 : decode cX8_removeSaying 21 = .ok (.getfield 19, 3) := by decide +kernel
theorem dX8_removeSaying_24 : decode cX8_removeSaying 24 = .ok (.invokevirtual 84, 3) := by decide +kernel
theorem dX8_removeSaying_27 : decode cX8_removeSaying 27 = .ok (.aload_n 0, 1) := by decide +kernel
theorem dX8_removeSaying_28 : decode cX8_removeSaying 28 = .ok (.getfield 19, 3) := by decide +kernel
theorem dX8_removeSaying_31 : decode cX8_removeSaying 31 = .ok (.iload_n 1, 1) := by decide +kernel
theorem dX8_removeSaying_32 : decode cX8_removeSaying 32 = .ok (.invokevirtual 96, 3) := by decide +kernel
theorem dX8_removeSaying_35 : decode cX8_removeSaying 35 = .ok (.aload_n 0, 1) := by decide +kernel
theorem dX8_removeSaying_36 : decode cX8_removeSaying 36 = .ok (.getfield 19, 3) := by decide +kernel
theorem dX8_removeSaying_39 : decode cX8_removeSaying 39 = .ok (.getfield 74, 3) := by decide +kernel
theorem dX8_removeSaying_42 : decode cX8_removeSaying 42 = .ok (.getfield 99, 3) := by decide +kernel
theorem dX8_removeSaying_45 : decode cX8_removeSaying 45 = .ok (.ireturn, 1) := by decide +kernel
theorem dX8_sayingCount_0 : decode cX8_sayingCount 0 = .ok (.aload_n 0, 1) := by decide +kernel
theorem dX8_sayingCount_1 : decode cX8_sayingCount 1 = .ok (.getfield 19, 3) := by decide +kernel
theorem dX8_sayingCount_4 : decode cX8_sayingCount 4 = .ok (.getfield 74, 3) := by decide +kernel
theorem dX8_sayingCount_7 : decode cX8_sayingCount 7 = .ok (.getfield 99, 3) := by decide +kernel
theorem dX8_sayingCount_10 : decode cX8_sayingCount 10 = .ok (.ireturn, 1) := by decide +kernel
theorem dX8_lengthOf_0 : decode cX8_lengthOf 0 = .ok (.aload_n 0, 1) := by decide +kernel
theorem dX8_lengthOf_1 : decode cX8_lengthOf 1 = .ok (.getfield 19, 3) := by decide +kernel
theorem dX8_lengthOf_4 : decode cX8_lengthOf 4 = .ok (.getfield 74, 3) := by decide +kernel
theorem dX8_lengthOf_7 : decode cX8_lengthOf 7 = .ok (.iload_n 1, 1) := by decide +kernel
theorem dX8_lengthOf_8 : decode cX8_lengthOf 8 = .ok (.invokevirtual 92, 3) := by decide +kernel
theorem dX8_lengthOf_11 : decode cX8_lengthOf 11 = .ok (.ifCond .ne 5, 3) := by decide +kernel
theorem dX8_lengthOf_14 : decode cX8_lengthOf 14 = .ok (.iconst (-1), 1) := by decide +kernel
theorem dX8_lengthOf_15 : decode cX8_lengthOf 15 = .ok (.ireturn, 1) := by decide +kernel
theorem dX8_lengthOf_16 : decode cX8_lengthOf 16 = .ok (.aload_n 0, 1) := by decide +kernel
theorem dX8_lengthOf_17 : decode cX8_lengthOf 17 = .ok (.getfield 19, 3) := by decide +kernel
theorem dX8_lengthOf_20 : decode cX8_lengthOf 20 = .ok (.getfield 74, 3) := by decide +kernel
theorem dX8_lengthOf_23 : decode cX8_lengthOf 23 = .ok (.iload_n 1, 1) := by decide +kernel
theorem dX8_lengthOf_24 : decode cX8_lengthOf 24 = .ok (.invokevirtual 102, 3) := by decide +kernel
theorem dX8_lengthOf_27 : decode cX8_lengthOf 27 = .ok (.ireturn, 1) := by decide +kernel
theorem dX8_wordAt_0 : decode cX8_wordAt 0 = .ok (.aload_n 0, 1) := by decide +kernel
theorem dX8_wordAt_1 : decode cX8_wordAt 1 = .ok (.getfield 19, 3) := by decide +kernel
theorem dX8_wordAt_4 : decode cX8_wordAt 4 = .ok (.getfield 74, 3) := by decide +kernel
theorem dX8_wordAt_7 : decode cX8_wordAt 7 = .ok (.iload_n 1, 1) := by decide +kernel
theorem dX8_wordAt_8 : decode cX8_wordAt 8 = .ok (.invokevirtual 92, 3) := by decide +kernel
theorem dX8_wordAt_11 : decode cX8_wordAt 11 = .ok (.ifCond .eq 7, 3) := by decide +kernel
theorem dX8_wordAt_14 : decode cX8_wordAt 14 = .ok (.iload_n 2, 1) := by decide +kernel
theorem dX8_wordAt_15 : decode cX8_wordAt 15 = .ok (.ifCond .ge 5, 3) := by decide +kernel
theorem dX8_wordAt_18 : decode cX8_wordAt 18 = .ok (.iconst (-1), 1) := by decide +kernel
theorem dX8_wordAt_19 : decode cX8_wordAt 19 = .ok (.ireturn, 1) := by decide +kernel
theorem dX8_wordAt_20 : decode cX8_wordAt 20 = .ok (.iload_n 2, 1) := by decide +kernel
theorem dX8_wordAt_21 : decode cX8_wordAt 21 = .ok (.aload_n 0, 1) := by decide +kernel
theorem dX8_wordAt_22 : decode cX8_wordAt 22 = .ok (.getfield 19, 3) := by decide +kernel
theorem dX8_wordAt_25 : decode cX8_wordAt 25 = .ok (.getfield 74, 3) := by decide +kernel
theorem dX8_wordAt_28 : decode cX8_wordAt 28 = .ok (.iload_n 1, 1) := by decide +kernel
theorem dX8_wordAt_29 : decode cX8_wordAt 29 = .ok (.invokevirtual 102, 3) := by decide +kernel
theorem dX8_wordAt_32 : decode cX8_wordAt 32 = .ok (.if_icmp .lt 6, 3) := by decide +kernel
theorem dX8_wordAt_35 : decode cX8_wordAt 35 = .ok (.bipush (-4), 2) := by decide +kernel
theorem dX8_wordAt_37 : decode cX8_wordAt 37 = .ok (.ireturn, 1) := by decide +kernel
theorem dX8_wordAt_38 : decode cX8_wordAt 38 = .ok (.aload_n 0, 1) := by decide +kernel
theorem dX8_wordAt_39 : decode cX8_wordAt 39 = .ok (.getfield 19, 3) := by decide +kernel
theorem dX8_wordAt_42 : decode cX8_wordAt 42 = .ok (.getfield 74, 3) := by decide +kernel
theorem dX8_wordAt_45 : decode cX8_wordAt 45 = .ok (.iload_n 1, 1) := by decide +kernel
theorem dX8_wordAt_46 : decode cX8_wordAt 46 = .ok (.iload_n 2, 1) := by decide +kernel
theorem dX8_wordAt_47 : decode cX8_wordAt 47 = .ok (.invokevirtual 106, 3) := by decide +kernel
theorem dX8_wordAt_50 : decode cX8_wordAt 50 = .ok (.ireturn, 1) := by decide +kernel
theorem dX8_byAge_0 : decode cX8_byAge 0 = .ok (.iload_n 1, 1) := by decide +kernel
theorem dX8_byAge_1 : decode cX8_byAge 1 = .ok (.ifCond .ge 5, 3) := by decide +kernel
theorem dX8_byAge_4 : decode cX8_byAge 4 = .ok (.iconst (-1), 1) := by decide +kernel
theorem dX8_byAge_5 : decode cX8_byAge 5 = .ok (.ireturn, 1) := by decide +kernel
theorem dX8_byAge_6 : decode cX8_byAge 6 = .ok (.iload_n 1, 1) := by decide +kernel
theorem dX8_byAge_7 : decode cX8_byAge 7 = .ok (.aload_n 0, 1) := by decide +kernel
theorem dX8_byAge_8 : decode cX8_byAge 8 = .ok (.getfield 19, 3) := by decide +kernel
theorem dX8_byAge_11 : decode cX8_byAge 11 = .ok (.getfield 74, 3) := by decide +kernel
theorem dX8_byAge_14 : decode cX8_byAge 14 = .ok (.getfield 99, 3) := by decide +kernel
theorem dX8_byAge_17 : decode cX8_byAge 17 = .ok (.if_icmp .lt 6, 3) := by decide +kernel
theorem dX8_byAge_20 : decode cX8_byAge 20 = .ok (.bipush (-4), 2) := by decide +kernel
theorem dX8_byAge_22 : decode cX8_byAge 22 = .ok (.ireturn, 1) := by decide +kernel
theorem dX8_byAge_23 : decode cX8_byAge 23 = .ok (.aload_n 0, 1) := by decide +kernel
theorem dX8_byAge_24 : decode cX8_byAge 24 = .ok (.getfield 19, 3) := by decide +kernel
theorem dX8_byAge_27 : decode cX8_byAge 27 = .ok (.aload_n 0, 1) := by decide +kernel
theorem dX8_byAge_28 : decode cX8_byAge 28 = .ok (.getfield 58, 3) := by decide +kernel
theorem dX8_byAge_31 : decode cX8_byAge 31 = .ok (.invokevirtual 110, 3) := by decide +kernel
theorem dX8_byAge_34 : decode cX8_byAge 34 = .ok (.aload_n 0, 1) := by decide +kernel
theorem dX8_byAge_35 : decode cX8_byAge 35 = .ok (.getfield 58, 3) := by decide +kernel
theorem dX8_byAge_38 : decode cX8_byAge 38 = .ok (.iload_n 1, 1) := by decide +kernel
theorem dX8_byAge_39 : decode cX8_byAge 39 = .ok (.iaload, 1) := by decide +kernel
theorem dX8_byAge_40 : decode cX8_byAge 40 = .ok (.ireturn, 1) := by decide +kernel
theorem dX8_setCost_0 : decode cX8_setCost 0 = .ok (.iload_n 1, 1) := by decide +kernel
theorem dX8_setCost_1 : decode cX8_setCost 1 = .ok (.ifCond .lt 19, 3) := by decide +kernel
theorem dX8_setCost_4 : decode cX8_setCost 4 = .ok (.iload_n 1, 1) := by decide +kernel
theorem dX8_setCost_5 : decode cX8_setCost 5 = .ok (.iconst 4, 1) := by decide +kernel
theorem dX8_setCost_6 : decode cX8_setCost 6 = .ok (.if_icmp .ge 14, 3) := by decide +kernel
theorem dX8_setCost_9 : decode cX8_setCost 9 = .ok (.iload_n 2, 1) := by decide +kernel
theorem dX8_setCost_10 : decode cX8_setCost 10 = .ok (.iconst 1, 1) := by decide +kernel
theorem dX8_setCost_11 : decode cX8_setCost 11 = .ok (.if_icmp .lt 9, 3) := by decide +kernel
theorem dX8_setCost_14 : decode cX8_setCost 14 = .ok (.iload_n 2, 1) := by decide +kernel
theorem dX8_setCost_15 : decode cX8_setCost 15 = .ok (.bipush 9, 2) := by decide +kernel
theorem dX8_setCost_17 : decode cX8_setCost 17 = .ok (.if_icmp .le 5, 3) := by decide +kernel
theorem dX8_setCost_20 : decode cX8_setCost 20 = .ok (.iconst (-1), 1) := by decide +kernel
theorem dX8_setCost_21 : decode cX8_setCost 21 = .ok (.ireturn, 1) := by decide +kernel
theorem dX8_setCost_22 : decode cX8_setCost 22 = .ok (.aload_n 0, 1) := by decide +kernel
theorem dX8_setCost_23 : decode cX8_setCost 23 = .ok (.getfield 26, 3) := by decide +kernel
theorem dX8_setCost_26 : decode cX8_setCost 26 = .ok (.aload_n 0, 1) := by decide +kernel
theorem dX8_setCost_27 : decode cX8_setCost 27 = .ok (.getfield 19, 3) := by decide +kernel
theorem dX8_setCost_30 : decode cX8_setCost 30 = .ok (.invokevirtual 84, 3) := by decide +kernel
theorem dX8_setCost_33 : decode cX8_setCost 33 = .ok (.aload_n 0, 1) := by decide +kernel
theorem dX8_setCost_34 : decode cX8_setCost 34 = .ok (.getfield 19, 3) := by decide +kernel
theorem dX8_setCost_37 : decode cX8_setCost 37 = .ok (.getfield 114, 3) := by decide +kernel
theorem dX8_setCost_40 : decode cX8_setCost 40 = .ok (.iload_n 1, 1) := by decide +kernel
theorem dX8_setCost_41 : decode cX8_setCost 41 = .ok (.iaload, 1) := by decide +kernel
theorem dX8_setCost_42 : decode cX8_setCost 42 = .ok (.istore_n 3, 1) := by decide +kernel
theorem dX8_setCost_43 : decode cX8_setCost 43 = .ok (.aload_n 0, 1) := by decide +kernel
theorem dX8_setCost_44 : decode cX8_setCost 44 = .ok (.getfield 19, 3) := by decide +kernel
theorem dX8_setCost_47 : decode cX8_setCost 47 = .ok (.getfield 114, 3) := by decide +kernel
theorem dX8_setCost_50 : decode cX8_setCost 50 = .ok (.iload_n 1, 1) := by decide +kernel
theorem dX8_setCost_51 : decode cX8_setCost 51 = .ok (.iload_n 2, 1) := by decide +kernel
theorem dX8_setCost_52 : decode cX8_setCost 52 = .ok (.iastore, 1) := by decide +kernel
theorem dX8_setCost_53 : decode cX8_setCost 53 = .ok (.iload_n 3, 1) := by decide +kernel
theorem dX8_setCost_54 : decode cX8_setCost 54 = .ok (.ireturn, 1) := by decide +kernel
theorem dX8_distance_0 : decode cX8_distance 0 = .ok (.aload_n 0, 1) := by decide +kernel
theorem dX8_distance_1 : decode cX8_distance 1 = .ok (.iload_n 1, 1) := by decide +kernel
theorem dX8_distance_2 : decode cX8_distance 2 = .ok (.iload_n 2, 1) := by decide +kernel
theorem dX8_distance_3 : decode cX8_distance 3 = .ok (.invokevirtual 117, 3) := by decide +kernel
theorem dX8_distance_6 : decode cX8_distance 6 = .ok (.ifCond .ne 5, 3) := by decide +kernel
theorem dX8_distance_9 : decode cX8_distance 9 = .ok (.iconst (-1), 1) := by decide +kernel
theorem dX8_distance_10 : decode cX8_distance 10 = .ok (.ireturn, 1) := by decide +kernel
theorem dX8_distance_11 : decode cX8_distance 11 = .ok (.aload_n 0, 1) := by decide +kernel
theorem dX8_distance_12 : decode cX8_distance 12 = .ok (.getfield 33, 3) := by decide +kernel
theorem dX8_distance_15 : decode cX8_distance 15 = .ok (.aload_n 0, 1) := by decide +kernel
theorem dX8_distance_16 : decode cX8_distance 16 = .ok (.getfield 19, 3) := by decide +kernel
theorem dX8_distance_19 : decode cX8_distance 19 = .ok (.iload_n 1, 1) := by decide +kernel
theorem dX8_distance_20 : decode cX8_distance 20 = .ok (.iload_n 2, 1) := by decide +kernel
theorem dX8_distance_21 : decode cX8_distance 21 = .ok (.invokevirtual 121, 3) := by decide +kernel
theorem dX8_distance_24 : decode cX8_distance 24 = .ok (.ireturn, 1) := by decide +kernel
theorem dX8_similarityBits_0 : decode cX8_similarityBits 0 = .ok (.aload_n 0, 1) := by decide +kernel
theorem dX8_similarityBits_1 : decode cX8_similarityBits 1 = .ok (.iload_n 1, 1) := by decide +kernel
theorem dX8_similarityBits_2 : decode cX8_similarityBits 2 = .ok (.iload_n 2, 1) := by decide +kernel
theorem dX8_similarityBits_3 : decode cX8_similarityBits 3 = .ok (.invokevirtual 117, 3) := by decide +kernel
theorem dX8_similarityBits_6 : decode cX8_similarityBits 6 = .ok (.ifCond .ne 5, 3) := by decide +kernel
theorem dX8_similarityBits_9 : decode cX8_similarityBits 9 = .ok (.iconst (-1), 1) := by decide +kernel
theorem dX8_similarityBits_10 : decode cX8_similarityBits 10 = .ok (.ireturn, 1) := by decide +kernel
theorem dX8_similarityBits_11 : decode cX8_similarityBits 11 = .ok (.aload_n 0, 1) := by decide +kernel
theorem dX8_similarityBits_12 : decode cX8_similarityBits 12 = .ok (.getfield 19, 3) := by decide +kernel
theorem dX8_similarityBits_15 : decode cX8_similarityBits 15 = .ok (.getfield 74, 3) := by decide +kernel
theorem dX8_similarityBits_18 : decode cX8_similarityBits 18 = .ok (.iload_n 1, 1) := by decide +kernel
theorem dX8_similarityBits_19 : decode cX8_similarityBits 19 = .ok (.invokevirtual 102, 3) := by decide +kernel
theorem dX8_similarityBits_22 : decode cX8_similarityBits 22 = .ok (.aload_n 0, 1) := by decide +kernel
theorem dX8_similarityBits_23 : decode cX8_similarityBits 23 = .ok (.getfield 19, 3) := by decide +kernel
theorem dX8_similarityBits_26 : decode cX8_similarityBits 26 = .ok (.getfield 74, 3) := by decide +kernel
theorem dX8_similarityBits_29 : decode cX8_similarityBits 29 = .ok (.iload_n 2, 1) := by decide +kernel
theorem dX8_similarityBits_30 : decode cX8_similarityBits 30 = .ok (.invokevirtual 102, 3) := by decide +kernel
theorem dX8_similarityBits_33 : decode cX8_similarityBits 33 = .ok (.iadd, 1) := by decide +kernel
theorem dX8_similarityBits_34 : decode cX8_similarityBits 34 = .ok (.istore_n 3, 1) := by decide +kernel
theorem dX8_similarityBits_35 : decode cX8_similarityBits 35 = .ok (.iconst 1, 1) := by decide +kernel
theorem dX8_similarityBits_36 : decode cX8_similarityBits 36 = .ok (.aload_n 0, 1) := by decide +kernel
theorem dX8_similarityBits_37 : decode cX8_similarityBits 37 = .ok (.getfield 19, 3) := by decide +kernel
theorem dX8_similarityBits_40 : decode cX8_similarityBits 40 = .ok (.getfield 114, 3) := by decide +kernel
theorem dX8_similarityBits_43 : decode cX8_similarityBits 43 = .ok (.iconst 0, 1) := by decide +kernel
theorem dX8_similarityBits_44 : decode cX8_similarityBits 44 = .ok (.iaload, 1) := by decide +kernel
theorem dX8_similarityBits_45 : decode cX8_similarityBits 45 = .ok (.iload_n 3, 1) := by decide +kernel
theorem dX8_similarityBits_46 : decode cX8_similarityBits 46 = .ok (.imul, 1) := by decide +kernel
theorem dX8_similarityBits_47 : decode cX8_similarityBits 47 = .ok (.invokestatic 125, 3) := by decide +kernel
theorem dX8_similarityBits_50 : decode cX8_similarityBits 50 = .ok (.istore 4, 2) := by decide +kernel
theorem dX8_similarityBits_52 : decode cX8_similarityBits 52 = .ok (.aload_n 0, 1) := by decide +kernel
theorem dX8_similarityBits_53 : decode cX8_similarityBits 53 = .ok (.getfield 33, 3) := by decide +kernel
theorem dX8_similarityBits_56 : decode cX8_similarityBits 56 = .ok (.aload_n 0, 1) := by decide +kernel
theorem dX8_similarityBits_57 : decode cX8_similarityBits 57 = .ok (.getfield 19, 3) := by decide +kernel
theorem dX8_similarityBits_60 : decode cX8_similarityBits 60 = .ok (.iload_n 1, 1) := by decide +kernel
theorem dX8_similarityBits_61 : decode cX8_similarityBits 61 = .ok (.iload_n 2, 1) := by decide +kernel
theorem dX8_similarityBits_62 : decode cX8_similarityBits 62 = .ok (.invokevirtual 121, 3) := by decide +kernel
theorem dX8_similarityBits_65 : decode cX8_similarityBits 65 = .ok (.i2f, 1) := by decide +kernel
theorem dX8_similarityBits_66 : decode cX8_similarityBits 66 = .ok (.iload 4, 2) := by decide +kernel
theorem dX8_similarityBits_68 : decode cX8_similarityBits 68 = .ok (.i2f, 1) := by decide +kernel
theorem dX8_similarityBits_69 : decode cX8_similarityBits 69 = .ok (.fdiv, 1) := by decide +kernel
theorem dX8_similarityBits_70 : decode cX8_similarityBits 70 = .ok (.fstore 5, 2) := by decide +kernel
theorem dX8_similarityBits_72 : decode cX8_similarityBits 72 = .ok (.fconst 1, 1) := by decide +kernel
theorem dX8_similarityBits_73 : decode cX8_similarityBits 73 = .ok (.fload 5, 2) := by decide +kernel
theorem dX8_similarityBits_75 : decode cX8_similarityBits 75 = .ok (.fsub, 1) := by decide +kernel
theorem dX8_similarityBits_76 : decode cX8_similarityBits 76 = .ok (.invokestatic 130, 3) := by decide +kernel
theorem dX8_similarityBits_79 : decode cX8_similarityBits 79 = .ok (.ireturn, 1) := by decide +kernel
theorem dX8_editCount_0 : decode cX8_editCount 0 = .ok (.aload_n 0, 1) := by decide +kernel
theorem dX8_editCount_1 : decode cX8_editCount 1 = .ok (.iload_n 1, 1) := by decide +kernel
theorem dX8_editCount_2 : decode cX8_editCount 2 = .ok (.iload_n 2, 1) := by decide +kernel
theorem dX8_editCount_3 : decode cX8_editCount 3 = .ok (.invokevirtual 117, 3) := by decide +kernel
theorem dX8_editCount_6 : decode cX8_editCount 6 = .ok (.ifCond .ne 5, 3) := by decide +kernel
theorem dX8_editCount_9 : decode cX8_editCount 9 = .ok (.iconst (-1), 1) := by decide +kernel
theorem dX8_editCount_10 : decode cX8_editCount 10 = .ok (.ireturn, 1) := by decide +kernel
theorem dX8_editCount_11 : decode cX8_editCount 11 = .ok (.aload_n 0, 1) := by decide +kernel
theorem dX8_editCount_12 : decode cX8_editCount 12 = .ok (.getfield 33, 3) := by decide +kernel
theorem dX8_editCount_15 : decode cX8_editCount 15 = .ok (.aload_n 0, 1) := by decide +kernel
theorem dX8_editCount_16 : decode cX8_editCount 16 = .ok (.getfield 19, 3) := by decide +kernel
theorem dX8_editCount_19 : decode cX8_editCount 19 = .ok (.iload_n 1, 1) := by decide +kernel
theorem dX8_editCount_20 : decode cX8_editCount 20 = .ok (.iload_n 2, 1) := by decide +kernel
theorem dX8_editCount_21 : decode cX8_editCount 21 = .ok (.invokevirtual 121, 3) := by decide +kernel
theorem dX8_editCount_24 : decode cX8_editCount 24 = .ok (.pop, 1) := by decide +kernel
theorem dX8_editCount_25 : decode cX8_editCount 25 = .ok (.aload_n 0, 1) := by decide +kernel
theorem dX8_editCount_26 : decode cX8_editCount 26 = .ok (.getfield 33, 3) := by decide +kernel
theorem dX8_editCount_29 : decode cX8_editCount 29 = .ok (.aload_n 0, 1) := by decide +kernel
theorem dX8_editCount_30 : decode cX8_editCount 30 = .ok (.getfield 19, 3) := by decide +kernel
theorem dX8_editCount_33 : decode cX8_editCount 33 = .ok (.getfield 114, 3) := by decide +kernel
theorem dX8_editCount_36 : decode cX8_editCount 36 = .ok (.invokevirtual 134, 3) := by decide +kernel
theorem dX8_editCount_39 : decode cX8_editCount 39 = .ok (.aload_n 0, 1) := by decide +kernel
theorem dX8_editCount_40 : decode cX8_editCount 40 = .ok (.getfield 33, 3) := by decide +kernel
theorem dX8_editCount_43 : decode cX8_editCount 43 = .ok (.getfield 137, 3) := by decide +kernel
theorem dX8_editCount_46 : decode cX8_editCount 46 = .ok (.ireturn, 1) := by decide +kernel
theorem dX8_editAt_0 : decode cX8_editAt 0 = .ok (.aload_n 0, 1) := by decide +kernel
theorem dX8_editAt_1 : decode cX8_editAt 1 = .ok (.iload_n 1, 1) := by decide +kernel
theorem dX8_editAt_2 : decode cX8_editAt 2 = .ok (.iload_n 2, 1) := by decide +kernel
theorem dX8_editAt_3 : decode cX8_editAt 3 = .ok (.invokevirtual 117, 3) := by decide +kernel
theorem dX8_editAt_6 : decode cX8_editAt 6 = .ok (.ifCond .eq 7, 3) := by decide +kernel
theorem dX8_editAt_9 : decode cX8_editAt 9 = .ok (.iload_n 3, 1) := by decide +kernel
theorem dX8_editAt_10 : decode cX8_editAt 10 = .ok (.ifCond .ge 5, 3) := by decide +kernel
theorem dX8_editAt_13 : decode cX8_editAt 13 = .ok (.iconst (-1), 1) := by decide +kernel
theorem dX8_editAt_14 : decode cX8_editAt 14 = .ok (.ireturn, 1) := by decide +kernel
theorem dX8_editAt_15 : decode cX8_editAt 15 = .ok (.aload_n 0, 1) := by decide +kernel
theorem dX8_editAt_16 : decode cX8_editAt 16 = .ok (.getfield 33, 3) := by decide +kernel
theorem dX8_editAt_19 : decode cX8_editAt 19 = .ok (.aload_n 0, 1) := by decide +kernel
theorem dX8_editAt_20 : decode cX8_editAt 20 = .ok (.getfield 19, 3) := by decide +kernel
theorem dX8_editAt_23 : decode cX8_editAt 23 = .ok (.iload_n 1, 1) := by decide +kernel
theorem dX8_editAt_24 : decode cX8_editAt 24 = .ok (.iload_n 2, 1) := by decide +kernel
theorem dX8_editAt_25 : decode cX8_editAt 25 = .ok (.invokevirtual 121, 3) := by decide +kernel
theorem dX8_editAt_28 : decode cX8_editAt 28 = .ok (.pop, 1) := by decide +kernel
theorem dX8_editAt_29 : decode cX8_editAt 29 = .ok (.aload_n 0, 1) := by decide +kernel
theorem dX8_editAt_30 : decode cX8_editAt 30 = .ok (.getfield 33, 3) := by decide +kernel
theorem dX8_editAt_33 : decode cX8_editAt 33 = .ok (.aload_n 0, 1) := by decide +kernel
theorem dX8_editAt_34 : decode cX8_editAt 34 = .ok (.getfield 19, 3) := by decide +kernel
theorem dX8_editAt_37 : decode cX8_editAt 37 = .ok (.getfield 114, 3) := by decide +kernel
theorem dX8_editAt_40 : decode cX8_editAt 40 = .ok (.invokevirtual 134, 3) := by decide +kernel
theorem dX8_editAt_43 : decode cX8_editAt 43 = .ok (.aload_n 0, 1) := by decide +kernel
theorem dX8_editAt_44 : decode cX8_editAt 44 = .ok (.getfield 33, 3) := by decide +kernel
theorem dX8_editAt_47 : decode cX8_editAt 47 = .ok (.iload_n 3, 1) := by decide +kernel
theorem dX8_editAt_48 : decode cX8_editAt 48 = .ok (.invokevirtual 140, 3) := by decide +kernel
theorem dX8_editAt_51 : decode cX8_editAt 51 = .ok (.ireturn, 1) := by decide +kernel
theorem dX8_nearest_0 : decode cX8_nearest 0 = .ok (.aload_n 0, 1) := by decide +kernel
theorem dX8_nearest_1 : decode cX8_nearest 1 = .ok (.getfield 19, 3) := by decide +kernel
theorem dX8_nearest_4 : decode cX8_nearest 4 = .ok (.getfield 74, 3) := by decide +kernel
theorem dX8_nearest_7 : decode cX8_nearest 7 = .ok (.iload_n 1, 1) := by decide +kernel
theorem dX8_nearest_8 : decode cX8_nearest 8 = .ok (.invokevirtual 92, 3) := by decide +kernel
theorem dX8_nearest_11 : decode cX8_nearest 11 = .ok (.ifCond .ne 5, 3) := by decide +kernel
theorem dX8_nearest_14 : decode cX8_nearest 14 = .ok (.iconst (-1), 1) := by decide +kernel
theorem dX8_nearest_15 : decode cX8_nearest 15 = .ok (.ireturn, 1) := by decide +kernel
theorem dX8_nearest_16 : decode cX8_nearest 16 = .ok (.aload_n 0, 1) := by decide +kernel
theorem dX8_nearest_17 : decode cX8_nearest 17 = .ok (.getfield 19, 3) := by decide +kernel
theorem dX8_nearest_20 : decode cX8_nearest 20 = .ok (.aload_n 0, 1) := by decide +kernel
theorem dX8_nearest_21 : decode cX8_nearest 21 = .ok (.getfield 58, 3) := by decide +kernel
theorem dX8_nearest_24 : decode cX8_nearest 24 = .ok (.invokevirtual 110, 3) := by decide +kernel
theorem dX8_nearest_27 : decode cX8_nearest 27 = .ok (.bipush (-4), 2) := by decide +kernel
theorem dX8_nearest_29 : decode cX8_nearest 29 = .ok (.istore_n 2, 1) := by decide +kernel
theorem dX8_nearest_30 : decode cX8_nearest 30 = .ok (.ldc 143, 2) := by decide +kernel
theorem dX8_nearest_32 : decode cX8_nearest 32 = .ok (.istore_n 3, 1) := by decide +kernel
theorem dX8_nearest_33 : decode cX8_nearest 33 = .ok (.iconst 0, 1) := by decide +kernel
theorem dX8_nearest_34 : decode cX8_nearest 34 = .ok (.istore 4, 2) := by decide +kernel
theorem dX8_nearest_36 : decode cX8_nearest 36 = .ok (.iload 4, 2) := by decide +kernel
theorem dX8_nearest_38 : decode cX8_nearest 38 = .ok (.aload_n 0, 1) := by decide +kernel
theorem dX8_nearest_39 : decode cX8_nearest 39 = .ok (.getfield 19, 3) := by decide +kernel
theorem dX8_nearest_42 : decode cX8_nearest 42 = .ok (.getfield 74, 3) := by decide +kernel
theorem dX8_nearest_45 : decode cX8_nearest 45 = .ok (.getfield 99, 3) := by decide +kernel
theorem dX8_nearest_48 : decode cX8_nearest 48 = .ok (.if_icmp .ge 57, 3) := by decide +kernel
theorem dX8_nearest_51 : decode cX8_nearest 51 = .ok (.aload_n 0, 1) := by decide +kernel
theorem dX8_nearest_52 : decode cX8_nearest 52 = .ok (.getfield 58, 3) := by decide +kernel
theorem dX8_nearest_55 : decode cX8_nearest 55 = .ok (.iload 4, 2) := by decide +kernel
theorem dX8_nearest_57 : decode cX8_nearest 57 = .ok (.iaload, 1) := by decide +kernel
theorem dX8_nearest_58 : decode cX8_nearest 58 = .ok (.istore 5, 2) := by decide +kernel
theorem dX8_nearest_60 : decode cX8_nearest 60 = .ok (.iload 5, 2) := by decide +kernel
theorem dX8_nearest_62 : decode cX8_nearest 62 = .ok (.iload_n 1, 1) := by decide +kernel
theorem dX8_nearest_63 : decode cX8_nearest 63 = .ok (.if_icmp .ne 8, 3) := by decide +kernel
theorem dX8_nearest_66 : decode cX8_nearest 66 = .ok (.ldc 143, 2) := by decide +kernel
theorem dX8_nearest_68 : decode cX8_nearest 68 = .ok (.goto 17, 3) := by decide +kernel
theorem dX8_nearest_71 : decode cX8_nearest 71 = .ok (.aload_n 0, 1) := by decide +kernel
theorem dX8_nearest_72 : decode cX8_nearest 72 = .ok (.getfield 33, 3) := by decide +kernel
theorem dX8_nearest_75 : decode cX8_nearest 75 = .ok (.aload_n 0, 1) := by decide +kernel
theorem dX8_nearest_76 : decode cX8_nearest 76 = .ok (.getfield 19, 3) := by decide +kernel
theorem dX8_nearest_79 : decode cX8_nearest 79 = .ok (.iload_n 1, 1) := by decide +kernel
theorem dX8_nearest_80 : decode cX8_nearest 80 = .ok (.iload 5, 2) := by decide +kernel
theorem dX8_nearest_82 : decode cX8_nearest 82 = .ok (.invokevirtual 121, 3) := by decide +kernel
theorem dX8_nearest_85 : decode cX8_nearest 85 = .ok (.istore 6, 2) := by decide +kernel
theorem dX8_nearest_87 : decode cX8_nearest 87 = .ok (.iload 6, 2) := by decide +kernel
theorem dX8_nearest_89 : decode cX8_nearest 89 = .ok (.iload_n 3, 1) := by decide +kernel
theorem dX8_nearest_90 : decode cX8_nearest 90 = .ok (.if_icmp .ge 9, 3) := by decide +kernel
theorem dX8_nearest_93 : decode cX8_nearest 93 = .ok (.iload 6, 2) := by decide +kernel
theorem dX8_nearest_95 : decode cX8_nearest 95 = .ok (.istore_n 3, 1) := by decide +kernel
theorem dX8_nearest_96 : decode cX8_nearest 96 = .ok (.iload 5, 2) := by decide +kernel
theorem dX8_nearest_98 : decode cX8_nearest 98 = .ok (.istore_n 2, 1) := by decide +kernel
theorem dX8_nearest_99 : decode cX8_nearest 99 = .ok (.iinc 4 1, 3) := by decide +kernel
theorem dX8_nearest_102 : decode cX8_nearest 102 = .ok (.goto (-66), 3) := by decide +kernel
theorem dX8_nearest_105 : decode cX8_nearest 105 = .ok (.iload_n 2, 1) := by decide +kernel
theorem dX8_nearest_106 : decode cX8_nearest 106 = .ok (.ireturn, 1) := by decide +kernel
theorem dX8_setLimit_0 : decode cX8_setLimit 0 = .ok (.iload_n 1, 1) := by decide +kernel
theorem dX8_setLimit_1 : decode cX8_setLimit 1 = .ok (.ifCond .lt 9, 3) := by decide +kernel
theorem dX8_setLimit_4 : decode cX8_setLimit 4 = .ok (.iload_n 1, 1) := by decide +kernel
theorem dX8_setLimit_5 : decode cX8_setLimit 5 = .ok (.bipush 20, 2) := by decide +kernel
theorem dX8_setLimit_7 : decode cX8_setLimit 7 = .ok (.if_icmp .le 5, 3) := by decide +kernel
theorem dX8_setLimit_10 : decode cX8_setLimit 10 = .ok (.iconst (-1), 1) := by decide +kernel
theorem dX8_setLimit_11 : decode cX8_setLimit 11 = .ok (.ireturn, 1) := by decide +kernel
theorem dX8_setLimit_12 : decode cX8_setLimit 12 = .ok (.aload_n 0, 1) := by decide +kernel
theorem dX8_setLimit_13 : decode cX8_setLimit 13 = .ok (.getfield 26, 3) := by decide +kernel
theorem dX8_setLimit_16 : decode cX8_setLimit 16 = .ok (.aload_n 0, 1) := by decide +kernel
theorem dX8_setLimit_17 : decode cX8_setLimit 17 = .ok (.getfield 19, 3) := by decide +kernel
theorem dX8_setLimit_20 : decode cX8_setLimit 20 = .ok (.invokevirtual 84, 3) := by decide +kernel
theorem dX8_setLimit_23 : decode cX8_setLimit 23 = .ok (.aload_n 0, 1) := by decide +kernel
theorem dX8_setLimit_24 : decode cX8_setLimit 24 = .ok (.getfield 19, 3) := by decide +kernel
theorem dX8_setLimit_27 : decode cX8_setLimit 27 = .ok (.getfield 162, 3) := by decide +kernel
theorem dX8_setLimit_30 : decode cX8_setLimit 30 = .ok (.istore_n 2, 1) := by decide +kernel
theorem dX8_setLimit_31 : decode cX8_setLimit 31 = .ok (.aload_n 0, 1) := by decide +kernel
theorem dX8_setLimit_32 : decode cX8_setLimit 32 = .ok (.getfield 19, 3) := by decide +kernel
theorem dX8_setLimit_35 : decode cX8_setLimit 35 = .ok (.iload_n 1, 1) := by decide +kernel
theorem dX8_setLimit_36 : decode cX8_setLimit 36 = .ok (.putfield 162, 3) := by decide +kernel
theorem dX8_setLimit_39 : decode cX8_setLimit 39 = .ok (.iload_n 2, 1) := by decide +kernel
theorem dX8_setLimit_40 : decode cX8_setLimit 40 = .ok (.ireturn, 1) := by decide +kernel
theorem dX8_groupCount_0 : decode cX8_groupCount 0 = .ok (.aload_n 0, 1) := by decide +kernel
theorem dX8_groupCount_1 : decode cX8_groupCount 1 = .ok (.getfield 47, 3) := by decide +kernel
theorem dX8_groupCount_4 : decode cX8_groupCount 4 = .ok (.aload_n 0, 1) := by decide +kernel
theorem dX8_groupCount_5 : decode cX8_groupCount 5 = .ok (.getfield 19, 3) := by decide +kernel
theorem dX8_groupCount_8 : decode cX8_groupCount 8 = .ok (.aload_n 0, 1) := by decide +kernel
theorem dX8_groupCount_9 : decode cX8_groupCount 9 = .ok (.getfield 33, 3) := by decide +kernel
theorem dX8_groupCount_12 : decode cX8_groupCount 12 = .ok (.invokevirtual 165, 3) := by decide +kernel
theorem dX8_groupCount_15 : decode cX8_groupCount 15 = .ok (.aload_n 0, 1) := by decide +kernel
theorem dX8_groupCount_16 : decode cX8_groupCount 16 = .ok (.getfield 47, 3) := by decide +kernel
theorem dX8_groupCount_19 : decode cX8_groupCount 19 = .ok (.getfield 169, 3) := by decide +kernel
theorem dX8_groupCount_22 : decode cX8_groupCount 22 = .ok (.ireturn, 1) := by decide +kernel
theorem dX8_groupOf_0 : decode cX8_groupOf 0 = .ok (.aload_n 0, 1) := by decide +kernel
theorem dX8_groupOf_1 : decode cX8_groupOf 1 = .ok (.getfield 19, 3) := by decide +kernel
theorem dX8_groupOf_4 : decode cX8_groupOf 4 = .ok (.getfield 74, 3) := by decide +kernel
theorem dX8_groupOf_7 : decode cX8_groupOf 7 = .ok (.iload_n 1, 1) := by decide +kernel
theorem dX8_groupOf_8 : decode cX8_groupOf 8 = .ok (.invokevirtual 92, 3) := by decide +kernel
theorem dX8_groupOf_11 : decode cX8_groupOf 11 = .ok (.ifCond .ne 5, 3) := by decide +kernel
theorem dX8_groupOf_14 : decode cX8_groupOf 14 = .ok (.iconst (-1), 1) := by decide +kernel
theorem dX8_groupOf_15 : decode cX8_groupOf 15 = .ok (.ireturn, 1) := by decide +kernel
theorem dX8_groupOf_16 : decode cX8_groupOf 16 = .ok (.aload_n 0, 1) := by decide +kernel
theorem dX8_groupOf_17 : decode cX8_groupOf 17 = .ok (.getfield 47, 3) := by decide +kernel
theorem dX8_groupOf_20 : decode cX8_groupOf 20 = .ok (.aload_n 0, 1) := by decide +kernel
theorem dX8_groupOf_21 : decode cX8_groupOf 21 = .ok (.getfield 19, 3) := by decide +kernel
theorem dX8_groupOf_24 : decode cX8_groupOf 24 = .ok (.aload_n 0, 1) := by decide +kernel
theorem dX8_groupOf_25 : decode cX8_groupOf 25 = .ok (.getfield 33, 3) := by decide +kernel
theorem dX8_groupOf_28 : decode cX8_groupOf 28 = .ok (.invokevirtual 165, 3) := by decide +kernel
theorem dX8_groupOf_31 : decode cX8_groupOf 31 = .ok (.aload_n 0, 1) := by decide +kernel
theorem dX8_groupOf_32 : decode cX8_groupOf 32 = .ok (.getfield 47, 3) := by decide +kernel
theorem dX8_groupOf_35 : decode cX8_groupOf 35 = .ok (.getfield 170, 3) := by decide +kernel
theorem dX8_groupOf_38 : decode cX8_groupOf 38 = .ok (.iload_n 1, 1) := by decide +kernel
theorem dX8_groupOf_39 : decode cX8_groupOf 39 = .ok (.iaload, 1) := by decide +kernel
theorem dX8_groupOf_40 : decode cX8_groupOf 40 = .ok (.ireturn, 1) := by decide +kernel
theorem dX8_centreOf_0 : decode cX8_centreOf 0 = .ok (.iload_n 1, 1) := by decide +kernel
theorem dX8_centreOf_1 : decode cX8_centreOf 1 = .ok (.ifCond .ge 5, 3) := by decide +kernel
theorem dX8_centreOf_4 : decode cX8_centreOf 4 = .ok (.iconst (-1), 1) := by decide +kernel
theorem dX8_centreOf_5 : decode cX8_centreOf 5 = .ok (.ireturn, 1) := by decide +kernel
theorem dX8_centreOf_6 : decode cX8_centreOf 6 = .ok (.aload_n 0, 1) := by decide +kernel
theorem dX8_centreOf_7 : decode cX8_centreOf 7 = .ok (.getfield 47, 3) := by decide +kernel
theorem dX8_centreOf_10 : decode cX8_centreOf 10 = .ok (.aload_n 0, 1) := by decide +kernel
theorem dX8_centreOf_11 : decode cX8_centreOf 11 = .ok (.getfield 19, 3) := by decide +kernel
theorem dX8_centreOf_14 : decode cX8_centreOf 14 = .ok (.aload_n 0, 1) := by decide +kernel
theorem dX8_centreOf_15 : decode cX8_centreOf 15 = .ok (.getfield 33, 3) := by decide +kernel
theorem dX8_centreOf_18 : decode cX8_centreOf 18 = .ok (.invokevirtual 165, 3) := by decide +kernel
theorem dX8_centreOf_21 : decode cX8_centreOf 21 = .ok (.aload_n 0, 1) := by decide +kernel
theorem dX8_centreOf_22 : decode cX8_centreOf 22 = .ok (.getfield 47, 3) := by decide +kernel
theorem dX8_centreOf_25 : decode cX8_centreOf 25 = .ok (.iload_n 1, 1) := by decide +kernel
theorem dX8_centreOf_26 : decode cX8_centreOf 26 = .ok (.invokevirtual 173, 3) := by decide +kernel
theorem dX8_centreOf_29 : decode cX8_centreOf 29 = .ok (.ireturn, 1) := by decide +kernel
theorem dX8_groupInfo_0 : decode cX8_groupInfo 0 = .ok (.iload_n 1, 1) := by decide +kernel
theorem dX8_groupInfo_1 : decode cX8_groupInfo 1 = .ok (.ifCond .lt 12, 3) := by decide +kernel
theorem dX8_groupInfo_4 : decode cX8_groupInfo 4 = .ok (.iload_n 2, 1) := by decide +kernel
theorem dX8_groupInfo_5 : decode cX8_groupInfo 5 = .ok (.ifCond .lt 8, 3) := by decide +kernel
theorem dX8_groupInfo_8 : decode cX8_groupInfo 8 = .ok (.iload_n 2, 1) := by decide +kernel
theorem dX8_groupInfo_9 : decode cX8_groupInfo 9 = .ok (.iconst 2, 1) := by decide +kernel
theorem dX8_groupInfo_10 : decode cX8_groupInfo 10 = .ok (.if_icmp .le 5, 3) := by decide +kernel
theorem dX8_groupInfo_13 : decode cX8_groupInfo 13 = .ok (.iconst (-1), 1) := by decide +kernel
theorem dX8_groupInfo_14 : decode cX8_groupInfo 14 = .ok (.ireturn, 1) := by decide +kernel
theorem dX8_groupInfo_15 : decode cX8_groupInfo 15 = .ok (.aload_n 0, 1) := by decide +kernel
theorem dX8_groupInfo_16 : decode cX8_groupInfo 16 = .ok (.getfield 47, 3) := by decide +kernel
theorem dX8_groupInfo_19 : decode cX8_groupInfo 19 = .ok (.aload_n 0, 1) := by decide +kernel
theorem dX8_groupInfo_20 : decode cX8_groupInfo 20 = .ok (.getfield 19, 3) := by decide +kernel
theorem dX8_groupInfo_23 : decode cX8_groupInfo 23 = .ok (.aload_n 0, 1) := by decide +kernel
theorem dX8_groupInfo_24 : decode cX8_groupInfo 24 = .ok (.getfield 33, 3) := by decide +kernel
theorem dX8_groupInfo_27 : decode cX8_groupInfo 27 = .ok (.invokevirtual 165, 3) := by decide +kernel
theorem dX8_groupInfo_30 : decode cX8_groupInfo 30 = .ok (.iload_n 1, 1) := by decide +kernel
theorem dX8_groupInfo_31 : decode cX8_groupInfo 31 = .ok (.aload_n 0, 1) := by decide +kernel
theorem dX8_groupInfo_32 : decode cX8_groupInfo 32 = .ok (.getfield 47, 3) := by decide +kernel
theorem dX8_groupInfo_35 : decode cX8_groupInfo 35 = .ok (.getfield 169, 3) := by decide +kernel
theorem dX8_groupInfo_38 : decode cX8_groupInfo 38 = .ok (.if_icmp .lt 6, 3) := by decide +kernel
theorem dX8_groupInfo_41 : decode cX8_groupInfo 41 = .ok (.bipush (-4), 2) := by decide +kernel
theorem dX8_groupInfo_43 : decode cX8_groupInfo 43 = .ok (.ireturn, 1) := by decide +kernel
theorem dX8_groupInfo_44 : decode cX8_groupInfo 44 = .ok (.iload_n 2, 1) := by decide +kernel
theorem dX8_groupInfo_45 : decode cX8_groupInfo 45 = .ok (.ifCond .ne 16, 3) := by decide +kernel
theorem dX8_groupInfo_48 : decode cX8_groupInfo 48 = .ok (.aload_n 0, 1) := by decide +kernel
theorem dX8_groupInfo_49 : decode cX8_groupInfo 49 = .ok (.getfield 47, 3) := by decide +kernel
theorem dX8_groupInfo_52 : decode cX8_groupInfo 52 = .ok (.aload_n 0, 1) := by decide +kernel
theorem dX8_groupInfo_53 : decode cX8_groupInfo 53 = .ok (.getfield 19, 3) := by decide +kernel
theorem dX8_groupInfo_56 : decode cX8_groupInfo 56 = .ok (.iload_n 1, 1) := by decide +kernel
theorem dX8_groupInfo_57 : decode cX8_groupInfo 57 = .ok (.invokevirtual 176, 3) := by decide +kernel
theorem dX8_groupInfo_60 : decode cX8_groupInfo 60 = .ok (.ireturn, 1) := by decide +kernel
theorem dX8_groupInfo_61 : decode cX8_groupInfo 61 = .ok (.iload_n 2, 1) := by decide +kernel
theorem dX8_groupInfo_62 : decode cX8_groupInfo 62 = .ok (.iconst 1, 1) := by decide +kernel
theorem dX8_groupInfo_63 : decode cX8_groupInfo 63 = .ok (.if_icmp .ne 18, 3) := by decide +kernel
theorem dX8_groupInfo_66 : decode cX8_groupInfo 66 = .ok (.aload_n 0, 1) := by decide +kernel
theorem dX8_groupInfo_67 : decode cX8_groupInfo 67 = .ok (.getfield 47, 3) := by decide +kernel
theorem dX8_groupInfo_70 : decode cX8_groupInfo 70 = .ok (.aload_n 0, 1) := by decide +kernel
theorem dX8_groupInfo_71 : decode cX8_groupInfo 71 = .ok (.getfield 19, 3) := by decide +kernel
theorem dX8_groupInfo_74 : decode cX8_groupInfo 74 = .ok (.iload_n 1, 1) := by decide +kernel
theorem dX8_groupInfo_75 : decode cX8_groupInfo 75 = .ok (.invokevirtual 180, 3) := by decide +kernel
theorem dX8_groupInfo_78 : decode cX8_groupInfo 78 = .ok (.goto 19, 3) := by decide +kernel
theorem dX8_groupInfo_81 : decode cX8_groupInfo 81 = .ok (.aload_n 0, 1) := by decide +kernel
theorem dX8_groupInfo_82 : decode cX8_groupInfo 82 = .ok (.getfield 47, 3) := by decide +kernel
theorem dX8_groupInfo_85 : decode cX8_groupInfo 85 = .ok (.aload_n 0, 1) := by decide +kernel
theorem dX8_groupInfo_86 : decode cX8_groupInfo 86 = .ok (.getfield 19, 3) := by decide +kernel
theorem dX8_groupInfo_89 : decode cX8_groupInfo 89 = .ok (.aload_n 0, 1) := by decide +kernel
theorem dX8_groupInfo_90 : decode cX8_groupInfo 90 = .ok (.getfield 33, 3) := by decide +kernel
theorem dX8_groupInfo_93 : decode cX8_groupInfo 93 = .ok (.iload_n 1, 1) := by decide +kernel
theorem dX8_groupInfo_94 : decode cX8_groupInfo 94 = .ok (.invokevirtual 183, 3) := by decide +kernel
theorem dX8_groupInfo_97 : decode cX8_groupInfo 97 = .ok (.ireturn, 1) := by decide +kernel
theorem dX8_undo_0 : decode cX8_undo 0 = .ok (.aload_n 0, 1) := by decide +kernel
theorem dX8_undo_1 : decode cX8_undo 1 = .ok (.getfield 26, 3) := by decide +kernel
theorem dX8_undo_4 : decode cX8_undo 4 = .ok (.getfield 195, 3) := by decide +kernel
theorem dX8_undo_7 : decode cX8_undo 7 = .ok (.ifCond .ne 6, 3) := by decide +kernel
theorem dX8_undo_10 : decode cX8_undo 10 = .ok (.bipush (-2), 2) := by decide +kernel
theorem dX8_undo_12 : decode cX8_undo 12 = .ok (.ireturn, 1) := by decide +kernel
theorem dX8_undo_13 : decode cX8_undo 13 = .ok (.aload_n 0, 1) := by decide +kernel
theorem dX8_undo_14 : decode cX8_undo 14 = .ok (.getfield 26, 3) := by decide +kernel
theorem dX8_undo_17 : decode cX8_undo 17 = .ok (.aload_n 0, 1) := by decide +kernel
theorem dX8_undo_18 : decode cX8_undo 18 = .ok (.getfield 19, 3) := by decide +kernel
theorem dX8_undo_21 : decode cX8_undo 21 = .ok (.invokevirtual 196, 3) := by decide +kernel
theorem dX8_undo_24 : decode cX8_undo 24 = .ok (.aload_n 0, 1) := by decide +kernel
theorem dX8_undo_25 : decode cX8_undo 25 = .ok (.getfield 26, 3) := by decide +kernel
theorem dX8_undo_28 : decode cX8_undo 28 = .ok (.getfield 195, 3) := by decide +kernel
theorem dX8_undo_31 : decode cX8_undo 31 = .ok (.ireturn, 1) := by decide +kernel
theorem dX8_hasBoth_0 : decode cX8_hasBoth 0 = .ok (.aload_n 0, 1) := by decide +kernel
theorem dX8_hasBoth_1 : decode cX8_hasBoth 1 = .ok (.getfield 19, 3) := by decide +kernel
theorem dX8_hasBoth_4 : decode cX8_hasBoth 4 = .ok (.getfield 74, 3) := by decide +kernel
theorem dX8_hasBoth_7 : decode cX8_hasBoth 7 = .ok (.iload_n 1, 1) := by decide +kernel
theorem dX8_hasBoth_8 : decode cX8_hasBoth 8 = .ok (.invokevirtual 92, 3) := by decide +kernel
theorem dX8_hasBoth_11 : decode cX8_hasBoth 11 = .ok (.ifCond .eq 21, 3) := by decide +kernel
theorem dX8_hasBoth_14 : decode cX8_hasBoth 14 = .ok (.aload_n 0, 1) := by decide +kernel
theorem dX8_hasBoth_15 : decode cX8_hasBoth 15 = .ok (.getfield 19, 3) := by decide +kernel
theorem dX8_hasBoth_18 : decode cX8_hasBoth 18 = .ok (.getfield 74, 3) := by decide +kernel
theorem dX8_hasBoth_21 : decode cX8_hasBoth 21 = .ok (.iload_n 2, 1) := by decide +kernel
theorem dX8_hasBoth_22 : decode cX8_hasBoth 22 = .ok (.invokevirtual 92, 3) := by decide +kernel
theorem dX8_hasBoth_25 : decode cX8_hasBoth 25 = .ok (.ifCond .eq 7, 3) := by decide +kernel
theorem dX8_hasBoth_28 : decode cX8_hasBoth 28 = .ok (.iconst 1, 1) := by decide +kernel
theorem dX8_hasBoth_29 : decode cX8_hasBoth 29 = .ok (.goto 4, 3) := by decide +kernel
theorem dX8_hasBoth_32 : decode cX8_hasBoth 32 = .ok (.iconst 0, 1) := by decide +kernel
theorem dX8_hasBoth_33 : decode cX8_hasBoth 33 = .ok (.ireturn, 1) := by decide +kernel
theorem dX8_bitsOf_0 : decode cX8_bitsOf 0 = .ok (.fload_n 0, 1) := by decide +kernel
theorem dX8_bitsOf_1 : decode cX8_bitsOf 1 = .ok (.fconst 0, 1) := by decide +kernel
theorem dX8_bitsOf_2 : decode cX8_bitsOf 2 = .ok (.fcmp .l, 1) := by decide +kernel
theorem dX8_bitsOf_3 : decode cX8_bitsOf 3 = .ok (.ifCond .gt 5, 3) := by decide +kernel
theorem dX8_bitsOf_6 : decode cX8_bitsOf 6 = .ok (.iconst 0, 1) := by decide +kernel
theorem dX8_bitsOf_7 : decode cX8_bitsOf 7 = .ok (.ireturn, 1) := by decide +kernel
theorem dX8_bitsOf_8 : decode cX8_bitsOf 8 = .ok (.fload_n 0, 1) := by decide +kernel
theorem dX8_bitsOf_9 : decode cX8_bitsOf 9 = .ok (.fstore_n 1, 1) := by decide +kernel
theorem dX8_bitsOf_10 : decode cX8_bitsOf 10 = .ok (.bipush 127, 2) := by decide +kernel
theorem dX8_bitsOf_12 : decode cX8_bitsOf 12 = .ok (.istore_n 2, 1) := by decide +kernel
theorem dX8_bitsOf_13 : decode cX8_bitsOf 13 = .ok (.iload_n 2, 1) := by decide +kernel
theorem dX8_bitsOf_14 : decode cX8_bitsOf 14 = .ok (.iconst 1, 1) := by decide +kernel
theorem dX8_bitsOf_15 : decode cX8_bitsOf 15 = .ok (.if_icmp .le 19, 3) := by decide +kernel
theorem dX8_bitsOf_18 : decode cX8_bitsOf 18 = .ok (.fload_n 1, 1) := by decide +kernel
theorem dX8_bitsOf_19 : decode cX8_bitsOf 19 = .ok (.fconst 1, 1) := by decide +kernel
theorem dX8_bitsOf_20 : decode cX8_bitsOf 20 = .ok (.fcmp .g, 1) := by decide +kernel
theorem dX8_bitsOf_21 : decode cX8_bitsOf 21 = .ok (.ifCond .ge 13, 3) := by decide +kernel
theorem dX8_bitsOf_24 : decode cX8_bitsOf 24 = .ok (.fload_n 1, 1) := by decide +kernel
theorem dX8_bitsOf_25 : decode cX8_bitsOf 25 = .ok (.fconst 2, 1) := by decide +kernel
theorem dX8_bitsOf_26 : decode cX8_bitsOf 26 = .ok (.fmul, 1) := by decide +kernel
theorem dX8_bitsOf_27 : decode cX8_bitsOf 27 = .ok (.fstore_n 1, 1) := by decide +kernel
theorem dX8_bitsOf_28 : decode cX8_bitsOf 28 = .ok (.iinc 2 (-1), 3) := by decide +kernel
theorem dX8_bitsOf_31 : decode cX8_bitsOf 31 = .ok (.goto (-18), 3) := by decide +kernel
theorem dX8_bitsOf_34 : decode cX8_bitsOf 34 = .ok (.iload_n 2, 1) := by decide +kernel
theorem dX8_bitsOf_35 : decode cX8_bitsOf 35 = .ok (.bipush 23, 2) := by decide +kernel
theorem dX8_bitsOf_37 : decode cX8_bitsOf 37 = .ok (.ishl, 1) := by decide +kernel
theorem dX8_bitsOf_38 : decode cX8_bitsOf 38 = .ok (.fload_n 1, 1) := by decide +kernel
theorem dX8_bitsOf_39 : decode cX8_bitsOf 39 = .ok (.fconst 1, 1) := by decide +kernel
theorem dX8_bitsOf_40 : decode cX8_bitsOf 40 = .ok (.fsub, 1) := by decide +kernel
theorem dX8_bitsOf_41 : decode cX8_bitsOf 41 = .ok (.ldc 199, 2) := by decide +kernel
theorem dX8_bitsOf_43 : decode cX8_bitsOf 43 = .ok (.fmul, 1) := by decide +kernel
theorem dX8_bitsOf_44 : decode cX8_bitsOf 44 = .ok (.f2i, 1) := by decide +kernel
theorem dX8_bitsOf_45 : decode cX8_bitsOf 45 = .ok (.iadd, 1) := by decide +kernel
theorem dX8_bitsOf_46 : decode cX8_bitsOf 46 = .ok (.ireturn, 1) := by decide +kernel
theorem dX8_copyAll_0 : decode cX8_copyAll 0 = .ok (.aload_n 0, 1) := by decide +kernel
theorem dX8_copyAll_1 : decode cX8_copyAll 1 = .ok (.iconst 0, 1) := by decide +kernel
theorem dX8_copyAll_2 : decode cX8_copyAll 2 = .ok (.aload_n 1, 1) := by decide +kernel
theorem dX8_copyAll_3 : decode cX8_copyAll 3 = .ok (.iconst 0, 1) := by decide +kernel
theorem dX8_copyAll_4 : decode cX8_copyAll 4 = .ok (.aload_n 0, 1) := by decide +kernel
theorem dX8_copyAll_5 : decode cX8_copyAll 5 = .ok (.arraylength, 1) := by decide +kernel
theorem dX8_copyAll_6 : decode cX8_copyAll 6 = .ok (.aload_n 1, 1) := by decide +kernel
theorem dX8_copyAll_7 : decode cX8_copyAll 7 = .ok (.arraylength, 1) := by decide +kernel
theorem dX8_copyAll_8 : decode cX8_copyAll 8 = .ok (.invokestatic 200, 3) := by decide +kernel
theorem dX8_copyAll_11 : decode cX8_copyAll 11 = .ok (.invokestatic 203, 3) := by decide +kernel
theorem dX8_copyAll_14 : decode cX8_copyAll 14 = .ok (.return_, 1) := by decide +kernel
theorem dX8_closeUp_0 : decode cX8_closeUp 0 = .ok (.iload_n 1, 1) := by decide +kernel
theorem dX8_closeUp_1 : decode cX8_closeUp 1 = .ok (.iconst 1, 1) := by decide +kernel
theorem dX8_closeUp_2 : decode cX8_closeUp 2 = .ok (.iadd, 1) := by decide +kernel
theorem dX8_closeUp_3 : decode cX8_closeUp 3 = .ok (.iload_n 2, 1) := by decide +kernel
theorem dX8_closeUp_4 : decode cX8_closeUp 4 = .ok (.imul, 1) := by decide +kernel
theorem dX8_closeUp_5 : decode cX8_closeUp 5 = .ok (.istore_n 3, 1) := by decide +kernel
theorem dX8_closeUp_6 : decode cX8_closeUp 6 = .ok (.iload_n 1, 1) := by decide +kernel
theorem dX8_closeUp_7 : decode cX8_closeUp 7 = .ok (.ifCond .lt 26, 3) := by decide +kernel
theorem dX8_closeUp_10 : decode cX8_closeUp 10 = .ok (.iload_n 2, 1) := by decide +kernel
theorem dX8_closeUp_11 : decode cX8_closeUp 11 = .ok (.ifCond .le 22, 3) := by decide +kernel
theorem dX8_closeUp_14 : decode cX8_closeUp 14 = .ok (.iload_n 3, 1) := by decide +kernel
theorem dX8_closeUp_15 : decode cX8_closeUp 15 = .ok (.aload_n 0, 1) := by decide +kernel
theorem dX8_closeUp_16 : decode cX8_closeUp 16 = .ok (.arraylength, 1) := by decide +kernel
theorem dX8_closeUp_17 : decode cX8_closeUp 17 = .ok (.if_icmp .gt 16, 3) := by decide +kernel
theorem dX8_closeUp_20 : decode cX8_closeUp 20 = .ok (.aload_n 0, 1) := by decide +kernel
theorem dX8_closeUp_21 : decode cX8_closeUp 21 = .ok (.iload_n 3, 1) := by decide +kernel
theorem dX8_closeUp_22 : decode cX8_closeUp 22 = .ok (.aload_n 0, 1) := by decide +kernel
theorem dX8_closeUp_23 : decode cX8_closeUp 23 = .ok (.iload_n 1, 1) := by decide +kernel
theorem dX8_closeUp_24 : decode cX8_closeUp 24 = .ok (.iload_n 2, 1) := by decide +kernel
theorem dX8_closeUp_25 : decode cX8_closeUp 25 = .ok (.imul, 1) := by decide +kernel
theorem dX8_closeUp_26 : decode cX8_closeUp 26 = .ok (.aload_n 0, 1) := by decide +kernel
theorem dX8_closeUp_27 : decode cX8_closeUp 27 = .ok (.arraylength, 1) := by decide +kernel
theorem dX8_closeUp_28 : decode cX8_closeUp 28 = .ok (.iload_n 3, 1) := by decide +kernel
theorem dX8_closeUp_29 : decode cX8_closeUp 29 = .ok (.isub, 1) := by decide +kernel
theorem dX8_closeUp_30 : decode cX8_closeUp 30 = .ok (.invokestatic 203, 3) := by decide +kernel
theorem dX8_closeUp_33 : decode cX8_closeUp 33 = .ok (.return_, 1) := by decide +kernel
theorem dJ6_bitCount_0f7a4_0 : decode cJ6_bitCount_0f7a4 0 = .ok (.iload_n 0, 1) := by decide +kernel
theorem dJ6_bitCount_0f7a4_1 : decode cJ6_bitCount_0f7a4 1 = .ok (.iload_n 0, 1) := by decide +kernel
theorem dJ6_bitCount_0f7a4_2 : decode cJ6_bitCount_0f7a4 2 = .ok (.iconst 1, 1) := by decide +kernel
theorem dJ6_bitCount_0f7a4_3 : decode cJ6_bitCount_0f7a4 3 = .ok (.iushr, 1) := by decide +kernel
theorem dJ6_bitCount_0f7a4_4 : decode cJ6_bitCount_0f7a4 4 = .ok (.ldc_w 265, 3) := by decide +kernel
theorem dJ6_bitCount_0f7a4_7 : decode cJ6_bitCount_0f7a4 7 = .ok (.iand, 1) := by decide +kernel
theorem dJ6_bitCount_0f7a4_8 : decode cJ6_bitCount_0f7a4 8 = .ok (.isub, 1) := by decide +kernel
theorem dJ6_bitCount_0f7a4_9 : decode cJ6_bitCount_0f7a4 9 = .ok (.istore_n 0, 1) := by decide +kernel
theorem dJ6_bitCount_0f7a4_10 : decode cJ6_bitCount_0f7a4 10 = .ok (.iload_n 0, 1) := by decide +kernel
theorem dJ6_bitCount_0f7a4_11 : decode cJ6_bitCount_0f7a4 11 = .ok (.ldc_w 266, 3) := by decide +kernel
theorem dJ6_bitCount_0f7a4_14 : decode cJ6_bitCount_0f7a4 14 = .ok (.iand, 1) := by decide +kernel
theorem dJ6_bitCount_0f7a4_15 : decode cJ6_bitCount_0f7a4 15 = .ok (.iload_n 0, 1) := by decide +kernel
theorem dJ6_bitCount_0f7a4_16 : decode cJ6_bitCount_0f7a4 16 = .ok (.iconst 2, 1) := by decide +kernel
theorem dJ6_bitCount_0f7a4_17 : decode cJ6_bitCount_0f7a4 17 = .ok (.iushr, 1) := by decide +kernel
theorem dJ6_bitCount_0f7a4_18 : decode cJ6_bitCount_0f7a4 18 = .ok (.ldc_w 266, 3) := by decide +kernel
theorem dJ6_bitCount_0f7a4_21 : decode cJ6_bitCount_0f7a4 21 = .ok (.iand, 1) := by decide +kernel
theorem dJ6_bitCount_0f7a4_22 : decode cJ6_bitCount_0f7a4 22 = .ok (.iadd, 1) := by decide +kernel
theorem dJ6_bitCount_0f7a4_23 : decode cJ6_bitCount_0f7a4 23 = .ok (.istore_n 0, 1) := by decide +kernel
theorem dJ6_bitCount_0f7a4_24 : decode cJ6_bitCount_0f7a4 24 = .ok (.iload_n 0, 1) := by decide +kernel
theorem dJ6_bitCount_0f7a4_25 : decode cJ6_bitCount_0f7a4 25 = .ok (.iload_n 0, 1) := by decide +kernel
theorem dJ6_bitCount_0f7a4_26 : decode cJ6_bitCount_0f7a4 26 = .ok (.iconst 4, 1) := by decide +kernel
theorem dJ6_bitCount_0f7a4_27 : decode cJ6_bitCount_0f7a4 27 = .ok (.iushr, 1) := by decide +kernel
theorem dJ6_bitCount_0f7a4_28 : decode cJ6_bitCount_0f7a4 28 = .ok (.iadd, 1) := by decide +kernel
theorem dJ6_bitCount_0f7a4_29 : decode cJ6_bitCount_0f7a4 29 = .ok (.ldc_w 267, 3) := by decide +kernel
theorem dJ6_bitCount_0f7a4_32 : decode cJ6_bitCount_0f7a4 32 = .ok (.iand, 1) := by decide +kernel
theorem dJ6_bitCount_0f7a4_33 : decode cJ6_bitCount_0f7a4 33 = .ok (.istore_n 0, 1) := by decide +kernel
theorem dJ6_bitCount_0f7a4_34 : decode cJ6_bitCount_0f7a4 34 = .ok (.iload_n 0, 1) := by decide +kernel
theorem dJ6_bitCount_0f7a4_35 : decode cJ6_bitCount_0f7a4 35 = .ok (.iload_n 0, 1) := by decide +kernel
theorem dJ6_bitCount_0f7a4_36 : decode cJ6_bitCount_0f7a4 36 = .ok (.bipush 8, 2) := by decide +kernel
theorem dJ6_bitCount_0f7a4_38 : decode cJ6_bitCount_0f7a4 38 = .ok (.iushr, 1) := by decide +kernel
theorem dJ6_bitCount_0f7a4_39 : decode cJ6_bitCount_0f7a4 39 = .ok (.iadd, 1) := by decide +kernel
theorem dJ6_bitCount_0f7a4_40 : decode cJ6_bitCount_0f7a4 40 = .ok (.istore_n 0, 1) := by decide +kernel
theorem dJ6_bitCount_0f7a4_41 : decode cJ6_bitCount_0f7a4 41 = .ok (.iload_n 0, 1) := by decide +kernel
theorem dJ6_bitCount_0f7a4_42 : decode cJ6_bitCount_0f7a4 42 = .ok (.iload_n 0, 1) := by decide +kernel
theorem dJ6_bitCount_0f7a4_43 : decode cJ6_bitCount_0f7a4 43 = .ok (.bipush 16, 2) := by decide +kernel
theorem dJ6_bitCount_0f7a4_45 : decode cJ6_bitCount_0f7a4 45 = .ok (.iushr, 1) := by decide +kernel
theorem dJ6_bitCount_0f7a4_46 : decode cJ6_bitCount_0f7a4 46 = .ok (.iadd, 1) := by decide +kernel
theorem dJ6_bitCount_0f7a4_47 : decode cJ6_bitCount_0f7a4 47 = .ok (.istore_n 0, 1) := by decide +kernel
theorem dJ6_bitCount_0f7a4_48 : decode cJ6_bitCount_0f7a4 48 = .ok (.iload_n 0, 1) := by decide +kernel
theorem dJ6_bitCount_0f7a4_49 : decode cJ6_bitCount_0f7a4 49 = .ok (.bipush 63, 2) := by decide +kernel
theorem dJ6_bitCount_0f7a4_51 : decode cJ6_bitCount_0f7a4 51 = .ok (.iand, 1) := by decide +kernel
theorem dJ6_bitCount_0f7a4_52 : decode cJ6_bitCount_0f7a4 52 = .ok (.ireturn, 1) := by decide +kernel
theorem dJ9_max_7cf53_0 : decode cJ9_max_7cf53 0 = .ok (.iload_n 0, 1) := by decide +kernel
theorem dJ9_max_7cf53_1 : decode cJ9_max_7cf53 1 = .ok (.iload_n 1, 1) := by decide +kernel
theorem dJ9_max_7cf53_2 : decode cJ9_max_7cf53 2 = .ok (.if_icmp .lt 7, 3) := by decide +kernel
theorem dJ9_max_7cf53_5 : decode cJ9_max_7cf53 5 = .ok (.iload_n 0, 1) := by decide +kernel
theorem dJ9_max_7cf53_6 : decode cJ9_max_7cf53 6 = .ok (.goto 4, 3) := by decide +kernel
theorem dJ9_max_7cf53_9 : decode cJ9_max_7cf53 9 = .ok (.iload_n 1, 1) := by decide +kernel
theorem dJ9_max_7cf53_10 : decode cJ9_max_7cf53 10 = .ok (.ireturn, 1) := by decide +kernel
theorem dJ9_min_7cf53_0 : decode cJ9_min_7cf53 0 = .ok (.iload_n 0, 1) := by decide +kernel
theorem dJ9_min_7cf53_1 : decode cJ9_min_7cf53 1 = .ok (.iload_n 1, 1) := by decide +kernel
theorem dJ9_min_7cf53_2 : decode cJ9_min_7cf53 2 = .ok (.if_icmp .gt 7, 3) := by decide +kernel
theorem dJ9_min_7cf53_5 : decode cJ9_min_7cf53 5 = .ok (.iload_n 0, 1) := by decide +kernel
theorem dJ9_min_7cf53_6 : decode cJ9_min_7cf53 6 = .ok (.goto 4, 3) := by decide +kernel
theorem dJ9_min_7cf53_9 : decode cJ9_min_7cf53 9 = .ok (.iload_n 1, 1) := by decide +kernel
theorem dJ9_min_7cf53_10 : decode cJ9_min_7cf53 10 = .ok (.ireturn, 1) := by decide +kernel
