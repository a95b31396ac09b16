theorem dL_cell_0 : decode cL_cell 0 = .ok (.iload_n 1, 1) := by decide +kernel
theorem dL_cell_1 : decode cL_cell 1 = .ok (.aload_n 0, 1) := by decide +kernel
theorem dL_cell_2 : decode cL_cell 2 = .ok (.arraylength, 1) := by decide +kernel
theorem dL_cell_3 : decode cL_cell 3 = .ok (.if_icmp .ge 9, 3) := by decide +kernel
theorem dL_cell_6 : decode cL_cell 6 = .ok (.aload_n 0, 1) := by decide +kernel
theorem dL_cell_7 : decode cL_cell 7 = .ok (.iload_n 1, 1) := by decide +kernel
theorem dL_cell_8 : decode cL_cell 8 = .ok (.iaload, 1) := by decide +kernel
theorem dL_cell_9 : decode cL_cell 9 = .ok (.goto 11, 3) := by decide +kernel
theorem dL_cell_12 : decode cL_cell 12 = .ok (.ldc 7, 2) := by decide +kernel
theorem dL_cell_14 : decode cL_cell 14 = .ok (.iload_n 1, 1) := by decide +kernel
theorem dL_cell_15 : decode cL_cell 15 = .ok (.imul, 1) := by decide +kernel
theorem dL_cell_16 : decode cL_cell 16 = .ok (.sipush 197, 3) := by decide +kernel
theorem dL_cell_19 : decode cL_cell 19 = .ok (.iadd, 1) := by decide +kernel
theorem dL_cell_20 : decode cL_cell 20 = .ok (.ldc 8, 2) := by decide +kernel
theorem dL_cell_22 : decode cL_cell 22 = .ok (.iand, 1) := by decide +kernel
theorem dL_cell_23 : decode cL_cell 23 = .ok (.ireturn, 1) := by decide +kernel
theorem dL_adds_0 : decode cL_adds 0 = .ok (.iconst 1, 1) := by decide +kernel
theorem dL_adds_1 : decode cL_adds 1 = .ok (.iload_n 1, 1) := by decide +kernel
theorem dL_adds_2 : decode cL_adds 2 = .ok (.iload_n 2, 1) := by decide +kernel
theorem dL_adds_3 : decode cL_adds 3 = .ok (.irem, 1) := by decide +kernel
theorem dL_adds_4 : decode cL_adds 4 = .ok (.iadd, 1) := by decide +kernel
theorem dL_adds_5 : decode cL_adds 5 = .ok (.istore_n 3, 1) := by decide +kernel
theorem dL_adds_6 : decode cL_adds 6 = .ok (.aload_n 0, 1) := by decide +kernel
theorem dL_adds_7 : decode cL_adds 7 = .ok (.invokevirtual 9, 3) := by decide +kernel
theorem dL_adds_10 : decode cL_adds 10 = .ok (.ifCond .lt 7, 3) := by decide +kernel
theorem dL_adds_13 : decode cL_adds 13 = .ok (.iconst 1, 1) := by decide +kernel
theorem dL_adds_14 : decode cL_adds 14 = .ok (.goto 4, 3) := by decide +kernel
theorem dL_adds_17 : decode cL_adds 17 = .ok (.iconst 0, 1) := by decide +kernel
theorem dL_adds_18 : decode cL_adds 18 = .ok (.istore 4, 2) := by decide +kernel
theorem dL_adds_20 : decode cL_adds 20 = .ok (.iconst 0, 1) := by decide +kernel
theorem dL_adds_21 : decode cL_adds 21 = .ok (.istore 5, 2) := by decide +kernel
theorem dL_adds_23 : decode cL_adds 23 = .ok (.iload 5, 2) := by decide +kernel
theorem dL_adds_25 : decode cL_adds 25 = .ok (.iload_n 3, 1) := by decide +kernel
theorem dL_adds_26 : decode cL_adds 26 = .ok (.if_icmp .ge 43, 3) := by decide +kernel
theorem dL_adds_29 : decode cL_adds 29 = .ok (.iload 4, 2) := by decide +kernel
theorem dL_adds_31 : decode cL_adds 31 = .ok (.ifCond .eq 38, 3) := by decide +kernel
theorem dL_adds_34 : decode cL_adds 34 = .ok (.aload_n 0, 1) := by decide +kernel
theorem dL_adds_35 : decode cL_adds 35 = .ok (.iload_n 1, 1) := by decide +kernel
theorem dL_adds_36 : decode cL_adds 36 = .ok (.iconst 2, 1) := by decide +kernel
theorem dL_adds_37 : decode cL_adds 37 = .ok (.iconst 2, 1) := by decide +kernel
theorem dL_adds_38 : decode cL_adds 38 = .ok (.iload 5, 2) := by decide +kernel
theorem dL_adds_40 : decode cL_adds 40 = .ok (.imul, 1) := by decide +kernel
theorem dL_adds_41 : decode cL_adds 41 = .ok (.iadd, 1) := by decide +kernel
theorem dL_adds_42 : decode cL_adds 42 = .ok (.ishr, 1) := by decide +kernel
theorem dL_adds_43 : decode cL_adds 43 = .ok (.bipush 6, 2) := by decide +kernel
theorem dL_adds_45 : decode cL_adds 45 = .ok (.irem, 1) := by decide +kernel
theorem dL_adds_46 : decode cL_adds 46 = .ok (.invokevirtual 15, 3) := by decide +kernel
theorem dL_adds_49 : decode cL_adds 49 = .ok (.iload 5, 2) := by decide +kernel
theorem dL_adds_51 : decode cL_adds 51 = .ok (.iconst 1, 1) := by decide +kernel
theorem dL_adds_52 : decode cL_adds 52 = .ok (.iadd, 1) := by decide +kernel
theorem dL_adds_53 : decode cL_adds 53 = .ok (.if_icmp .ne 7, 3) := by decide +kernel
theorem dL_adds_56 : decode cL_adds 56 = .ok (.iconst 1, 1) := by decide +kernel
theorem dL_adds_57 : decode cL_adds 57 = .ok (.goto 4, 3) := by decide +kernel
theorem dL_adds_60 : decode cL_adds 60 = .ok (.iconst 0, 1) := by decide +kernel
theorem dL_adds_61 : decode cL_adds 61 = .ok (.istore 4, 2) := by decide +kernel
theorem dL_adds_63 : decode cL_adds 63 = .ok (.iinc 5 1, 3) := by decide +kernel
theorem dL_adds_66 : decode cL_adds 66 = .ok (.goto (-43), 3) := by decide +kernel
theorem dL_adds_69 : decode cL_adds 69 = .ok (.aload_n 0, 1) := by decide +kernel
theorem dL_adds_70 : decode cL_adds 70 = .ok (.invokevirtual 19, 3) := by decide +kernel
theorem dL_adds_73 : decode cL_adds 73 = .ok (.istore 5, 2) := by decide +kernel
theorem dL_adds_75 : decode cL_adds 75 = .ok (.iload 4, 2) := by decide +kernel
theorem dL_adds_77 : decode cL_adds 77 = .ok (.ifCond .eq 39, 3) := by decide +kernel
theorem dL_adds_80 : decode cL_adds 80 = .ok (.aload_n 0, 1) := by decide +kernel
theorem dL_adds_81 : decode cL_adds 81 = .ok (.iload_n 1, 1) := by decide +kernel
theorem dL_adds_82 : decode cL_adds 82 = .ok (.iconst 5, 1) := by decide +kernel
theorem dL_adds_83 : decode cL_adds 83 = .ok (.ishr, 1) := by decide +kernel
theorem dL_adds_84 : decode cL_adds 84 = .ok (.bipush 40, 2) := by decide +kernel
theorem dL_adds_86 : decode cL_adds 86 = .ok (.irem, 1) := by decide +kernel
theorem dL_adds_87 : decode cL_adds 87 = .ok (.iload_n 1, 1) := by decide +kernel
theorem dL_adds_88 : decode cL_adds 88 = .ok (.bipush 9, 2) := by decide +kernel
theorem dL_adds_90 : decode cL_adds 90 = .ok (.ishr, 1) := by decide +kernel
theorem dL_adds_91 : decode cL_adds 91 = .ok (.bipush 10, 2) := by decide +kernel
theorem dL_adds_93 : decode cL_adds 93 = .ok (.irem, 1) := by decide +kernel
theorem dL_adds_94 : decode cL_adds 94 = .ok (.invokevirtual 22, 3) := by decide +kernel
theorem dL_adds_97 : decode cL_adds 97 = .ok (.iload 5, 2) := by decide +kernel
theorem dL_adds_99 : decode cL_adds 99 = .ok (.if_icmp .ne 17, 3) := by decide +kernel
theorem dL_adds_102 : decode cL_adds 102 = .ok (.aload_n 0, 1) := by decide +kernel
theorem dL_adds_103 : decode cL_adds 103 = .ok (.iload 5, 2) := by decide +kernel
theorem dL_adds_105 : decode cL_adds 105 = .ok (.invokevirtual 26, 3) := by decide +kernel
theorem dL_adds_108 : decode cL_adds 108 = .ok (.iload_n 3, 1) := by decide +kernel
theorem dL_adds_109 : decode cL_adds 109 = .ok (.if_icmp .ne 7, 3) := by decide +kernel
theorem dL_adds_112 : decode cL_adds 112 = .ok (.iconst 1, 1) := by decide +kernel
theorem dL_adds_113 : decode cL_adds 113 = .ok (.goto 4, 3) := by decide +kernel
theorem dL_adds_116 : decode cL_adds 116 = .ok (.iconst 0, 1) := by decide +kernel
theorem dL_adds_117 : decode cL_adds 117 = .ok (.ireturn, 1) := by decide +kernel
theorem dL_exchange_0 : decode cL_exchange 0 = .ok (.iload_n 1, 1) := by decide +kernel
theorem dL_exchange_1 : decode cL_exchange 1 = .ok (.iload_n 2, 1) := by decide +kernel
theorem dL_exchange_2 : decode cL_exchange 2 = .ok (.if_icmp .ne 7, 3) := by decide +kernel
theorem dL_exchange_5 : decode cL_exchange 5 = .ok (.iconst 0, 1) := by decide +kernel
theorem dL_exchange_6 : decode cL_exchange 6 = .ok (.goto 21, 3) := by decide +kernel
theorem dL_exchange_9 : decode cL_exchange 9 = .ok (.iload_n 1, 1) := by decide +kernel
theorem dL_exchange_10 : decode cL_exchange 10 = .ok (.iconst 4, 1) := by decide +kernel
theorem dL_exchange_11 : decode cL_exchange 11 = .ok (.idiv, 1) := by decide +kernel
theorem dL_exchange_12 : decode cL_exchange 12 = .ok (.iload_n 2, 1) := by decide +kernel
theorem dL_exchange_13 : decode cL_exchange 13 = .ok (.iconst 4, 1) := by decide +kernel
theorem dL_exchange_14 : decode cL_exchange 14 = .ok (.idiv, 1) := by decide +kernel
theorem dL_exchange_15 : decode cL_exchange 15 = .ok (.if_icmp .ne 9, 3) := by decide +kernel
theorem dL_exchange_18 : decode cL_exchange 18 = .ok (.aload_n 0, 1) := by decide +kernel
theorem dL_exchange_19 : decode cL_exchange 19 = .ok (.iconst 2, 1) := by decide +kernel
theorem dL_exchange_20 : decode cL_exchange 20 = .ok (.iaload, 1) := by decide +kernel
theorem dL_exchange_21 : decode cL_exchange 21 = .ok (.goto 6, 3) := by decide +kernel
theorem dL_exchange_24 : decode cL_exchange 24 = .ok (.aload_n 0, 1) := by decide +kernel
theorem dL_exchange_25 : decode cL_exchange 25 = .ok (.iconst 1, 1) := by decide +kernel
theorem dL_exchange_26 : decode cL_exchange 26 = .ok (.iaload, 1) := by decide +kernel
theorem dL_exchange_27 : decode cL_exchange 27 = .ok (.ireturn, 1) := by decide +kernel
theorem dL_isEdited_0 : decode cL_isEdited 0 = .ok (.aload_n 0, 1) := by decide +kernel
theorem dL_isEdited_1 : decode cL_isEdited 1 = .ok (.iload_n 2, 1) := by decide +kernel
theorem dL_isEdited_2 : decode cL_isEdited 2 = .ok (.iload_n 3, 1) := by decide +kernel
theorem dL_isEdited_3 : decode cL_isEdited 3 = .ok (.invokevirtual 29, 3) := by decide +kernel
theorem dL_isEdited_6 : decode cL_isEdited 6 = .ok (.istore 4, 2) := by decide +kernel
theorem dL_isEdited_8 : decode cL_isEdited 8 = .ok (.iconst 0, 1) := by decide +kernel
theorem dL_isEdited_9 : decode cL_isEdited 9 = .ok (.istore 5, 2) := by decide +kernel
theorem dL_isEdited_11 : decode cL_isEdited 11 = .ok (.iconst 0, 1) := by decide +kernel
theorem dL_isEdited_12 : decode cL_isEdited 12 = .ok (.istore 6, 2) := by decide +kernel
theorem dL_isEdited_14 : decode cL_isEdited 14 = .ok (.iconst 0, 1) := by decide +kernel
theorem dL_isEdited_15 : decode cL_isEdited 15 = .ok (.istore 7, 2) := by decide +kernel
theorem dL_isEdited_17 : decode cL_isEdited 17 = .ok (.iconst 1, 1) := by decide +kernel
theorem dL_isEdited_18 : decode cL_isEdited 18 = .ok (.istore 8, 2) := by decide +kernel
theorem dL_isEdited_20 : decode cL_isEdited 20 = .ok (.iconst 0, 1) := by decide +kernel
theorem dL_isEdited_21 : decode cL_isEdited 21 = .ok (.istore 9, 2) := by decide +kernel
theorem dL_isEdited_23 : decode cL_isEdited 23 = .ok (.iload 9, 2) := by decide +kernel
theorem dL_isEdited_25 : decode cL_isEdited 25 = .ok (.iload 4, 2) := by decide +kernel
theorem dL_isEdited_27 : decode cL_isEdited 27 = .ok (.if_icmp .gt 348, 3) := by decide +kernel
theorem dL_isEdited_30 : decode cL_isEdited 30 = .ok (.iload 8, 2) := by decide +kernel
theorem dL_isEdited_32 : decode cL_isEdited 32 = .ok (.ifCond .eq 343, 3) := by decide +kernel
theorem dL_isEdited_35 : decode cL_isEdited 35 = .ok (.iload 9, 2) := by decide +kernel
theorem dL_isEdited_37 : decode cL_isEdited 37 = .ok (.iload 4, 2) := by decide +kernel
theorem dL_isEdited_39 : decode cL_isEdited 39 = .ok (.if_icmp .ge 14, 3) := by decide +kernel
theorem dL_isEdited_42 : decode cL_isEdited 42 = .ok (.aload_n 0, 1) := by decide +kernel
theorem dL_isEdited_43 : decode cL_isEdited 43 = .ok (.iload_n 2, 1) := by decide +kernel
theorem dL_isEdited_44 : decode cL_isEdited 44 = .ok (.iload_n 3, 1) := by decide +kernel
theorem dL_isEdited_45 : decode cL_isEdited 45 = .ok (.iload 9, 2) := by decide +kernel
theorem dL_isEdited_47 : decode cL_isEdited 47 = .ok (.invokevirtual 32, 3) := by decide +kernel
theorem dL_isEdited_50 : decode cL_isEdited 50 = .ok (.goto 17, 3) := by decide +kernel
theorem dL_isEdited_53 : decode cL_isEdited 53 = .ok (.bipush 10, 2) := by decide +kernel
theorem dL_isEdited_55 : decode cL_isEdited 55 = .ok (.aload_n 0, 1) := by decide +kernel
theorem dL_isEdited_56 : decode cL_isEdited 56 = .ok (.iload_n 2, 1) := by decide +kernel
theorem dL_isEdited_57 : decode cL_isEdited 57 = .ok (.invokevirtual 26, 3) := by decide +kernel
theorem dL_isEdited_60 : decode cL_isEdited 60 = .ok (.imul, 1) := by decide +kernel
theorem dL_isEdited_61 : decode cL_isEdited 61 = .ok (.aload_n 0, 1) := by decide +kernel
theorem dL_isEdited_62 : decode cL_isEdited 62 = .ok (.iload_n 3, 1) := by decide +kernel
theorem dL_isEdited_63 : decode cL_isEdited 63 = .ok (.invokevirtual 26, 3) := by decide +kernel
theorem dL_isEdited_66 : decode cL_isEdited 66 = .ok (.iadd, 1) := by decide +kernel
theorem dL_isEdited_67 : decode cL_isEdited 67 = .ok (.istore 10, 2) := by decide +kernel
theorem dL_isEdited_69 : decode cL_isEdited 69 = .ok (.iload 10, 2) := by decide +kernel
theorem dL_isEdited_71 : decode cL_isEdited 71 = .ok (.bipush 10, 2) := by decide +kernel
theorem dL_isEdited_73 : decode cL_isEdited 73 = .ok (.idiv, 1) := by decide +kernel
theorem dL_isEdited_74 : decode cL_isEdited 74 = .ok (.bipush 10, 2) := by decide +kernel
theorem dL_isEdited_76 : decode cL_isEdited 76 = .ok (.irem, 1) := by decide +kernel
theorem dL_isEdited_77 : decode cL_isEdited 77 = .ok (.istore 11, 2) := by decide +kernel
theorem dL_isEdited_79 : decode cL_isEdited 79 = .ok (.iload 10, 2) := by decide +kernel
theorem dL_isEdited_81 : decode cL_isEdited 81 = .ok (.bipush 10, 2) := by decide +kernel
theorem dL_isEdited_83 : decode cL_isEdited 83 = .ok (.irem, 1) := by decide +kernel
theorem dL_isEdited_84 : decode cL_isEdited 84 = .ok (.istore 12, 2) := by decide +kernel
theorem dL_isEdited_86 : decode cL_isEdited 86 = .ok (.iload 11, 2) := by decide +kernel
theorem dL_isEdited_88 : decode cL_isEdited 88 = .ok (.iload 5, 2) := by decide +kernel
theorem dL_isEdited_90 : decode cL_isEdited 90 = .ok (.isub, 1) := by decide +kernel
theorem dL_isEdited_91 : decode cL_isEdited 91 = .ok (.iload 12, 2) := by decide +kernel
theorem dL_isEdited_93 : decode cL_isEdited 93 = .ok (.iload 6, 2) := by decide +kernel
theorem dL_isEdited_95 : decode cL_isEdited 95 = .ok (.isub, 1) := by decide +kernel
theorem dL_isEdited_96 : decode cL_isEdited 96 = .ok (.if_icmp .ne 14, 3) := by decide +kernel
theorem dL_isEdited_99 : decode cL_isEdited 99 = .ok (.iload 11, 2) := by decide +kernel
theorem dL_isEdited_101 : decode cL_isEdited 101 = .ok (.iload 5, 2) := by decide +kernel
theorem dL_isEdited_103 : decode cL_isEdited 103 = .ok (.if_icmp .lt 7, 3) := by decide +kernel
theorem dL_isEdited_106 : decode cL_isEdited 106 = .ok (.iconst 1, 1) := by decide +kernel
theorem dL_isEdited_107 : decode cL_isEdited 107 = .ok (.goto 4, 3) := by decide +kernel
theorem dL_isEdited_110 : decode cL_isEdited 110 = .ok (.iconst 0, 1) := by decide +kernel
theorem dL_isEdited_111 : decode cL_isEdited 111 = .ok (.istore 8, 2) := by decide +kernel
theorem dL_isEdited_113 : decode cL_isEdited 113 = .ok (.iload 8, 2) := by decide +kernel
theorem dL_isEdited_115 : decode cL_isEdited 115 = .ok (.ifCond .eq 43, 3) := by decide +kernel
theorem dL_isEdited_118 : decode cL_isEdited 118 = .ok (.iload 5, 2) := by decide +kernel
theorem dL_isEdited_120 : decode cL_isEdited 120 = .ok (.iload 11, 2) := by decide +kernel
theorem dL_isEdited_122 : decode cL_isEdited 122 = .ok (.if_icmp .ge 36, 3) := by decide +kernel
theorem dL_isEdited_125 : decode cL_isEdited 125 = .ok (.aload_n 0, 1) := by decide +kernel
theorem dL_isEdited_126 : decode cL_isEdited 126 = .ok (.iload_n 2, 1) := by decide +kernel
theorem dL_isEdited_127 : decode cL_isEdited 127 = .ok (.iload 5, 2) := by decide +kernel
theorem dL_isEdited_129 : decode cL_isEdited 129 = .ok (.invokevirtual 36, 3) := by decide +kernel
theorem dL_isEdited_132 : decode cL_isEdited 132 = .ok (.aload_n 0, 1) := by decide +kernel
theorem dL_isEdited_133 : decode cL_isEdited 133 = .ok (.iload_n 3, 1) := by decide +kernel
theorem dL_isEdited_134 : decode cL_isEdited 134 = .ok (.iload 6, 2) := by decide +kernel
theorem dL_isEdited_136 : decode cL_isEdited 136 = .ok (.invokevirtual 36, 3) := by decide +kernel
theorem dL_isEdited_139 : decode cL_isEdited 139 = .ok (.if_icmp .ne 7, 3) := by decide +kernel
theorem dL_isEdited_142 : decode cL_isEdited 142 = .ok (.iconst 1, 1) := by decide +kernel
theorem dL_isEdited_143 : decode cL_isEdited 143 = .ok (.goto 4, 3) := by decide +kernel
theorem dL_isEdited_146 : decode cL_isEdited 146 = .ok (.iconst 0, 1) := by decide +kernel
theorem dL_isEdited_147 : decode cL_isEdited 147 = .ok (.istore 8, 2) := by decide +kernel
theorem dL_isEdited_149 : decode cL_isEdited 149 = .ok (.iinc 5 1, 3) := by decide +kernel
theorem dL_isEdited_152 : decode cL_isEdited 152 = .ok (.iinc 6 1, 3) := by decide +kernel
theorem dL_isEdited_155 : decode cL_isEdited 155 = .ok (.goto (-42), 3) := by decide +kernel
theorem dL_isEdited_158 : decode cL_isEdited 158 = .ok (.iload 10, 2) := by decide +kernel
theorem dL_isEdited_160 : decode cL_isEdited 160 = .ok (.bipush 100, 2) := by decide +kernel
theorem dL_isEdited_162 : decode cL_isEdited 162 = .ok (.idiv, 1) := by decide +kernel
theorem dL_isEdited_163 : decode cL_isEdited 163 = .ok (.istore 13, 2) := by decide +kernel
theorem dL_isEdited_165 : decode cL_isEdited 165 = .ok (.iload 13, 2) := by decide +kernel
theorem dL_isEdited_167 : decode cL_isEdited 167 = .ok (.iconst 1, 1) := by decide +kernel
theorem dL_isEdited_168 : decode cL_isEdited 168 = .ok (.if_icmp .ne 58, 3) := by decide +kernel
theorem dL_isEdited_171 : decode cL_isEdited 171 = .ok (.iload 7, 2) := by decide +kernel
theorem dL_isEdited_173 : decode cL_isEdited 173 = .ok (.aload_n 1, 1) := by decide +kernel
theorem dL_isEdited_174 : decode cL_isEdited 174 = .ok (.aload_n 0, 1) := by decide +kernel
theorem dL_isEdited_175 : decode cL_isEdited 175 = .ok (.iload_n 2, 1) := by decide +kernel
theorem dL_isEdited_176 : decode cL_isEdited 176 = .ok (.iload 5, 2) := by decide +kernel
theorem dL_isEdited_178 : decode cL_isEdited 178 = .ok (.invokevirtual 36, 3) := by decide +kernel
theorem dL_isEdited_181 : decode cL_isEdited 181 = .ok (.aload_n 0, 1) := by decide +kernel
theorem dL_isEdited_182 : decode cL_isEdited 182 = .ok (.iload_n 3, 1) := by decide +kernel
theorem dL_isEdited_183 : decode cL_isEdited 183 = .ok (.iload 6, 2) := by decide +kernel
theorem dL_isEdited_185 : decode cL_isEdited 185 = .ok (.invokevirtual 36, 3) := by decide +kernel
theorem dL_isEdited_188 : decode cL_isEdited 188 = .ok (.invokestatic 39, 3) := by decide +kernel
theorem dL_isEdited_191 : decode cL_isEdited 191 = .ok (.iadd, 1) := by decide +kernel
theorem dL_isEdited_192 : decode cL_isEdited 192 = .ok (.istore 7, 2) := by decide +kernel
theorem dL_isEdited_194 : decode cL_isEdited 194 = .ok (.iload 8, 2) := by decide +kernel
theorem dL_isEdited_196 : decode cL_isEdited 196 = .ok (.ifCond .eq 24, 3) := by decide +kernel
theorem dL_isEdited_199 : decode cL_isEdited 199 = .ok (.aload_n 0, 1) := by decide +kernel
theorem dL_isEdited_200 : decode cL_isEdited 200 = .ok (.iload_n 2, 1) := by decide +kernel
theorem dL_isEdited_201 : decode cL_isEdited 201 = .ok (.iload 5, 2) := by decide +kernel
theorem dL_isEdited_203 : decode cL_isEdited 203 = .ok (.invokevirtual 36, 3) := by decide +kernel
theorem dL_isEdited_206 : decode cL_isEdited 206 = .ok (.aload_n 0, 1) := by decide +kernel
theorem dL_isEdited_207 : decode cL_isEdited 207 = .ok (.iload_n 3, 1) := by decide +kernel
theorem dL_isEdited_208 : decode cL_isEdited 208 = .ok (.iload 6, 2) := by decide +kernel
theorem dL_isEdited_210 : decode cL_isEdited 210 = .ok (.invokevirtual 36, 3) := by decide +kernel
theorem dL_isEdited_213 : decode cL_isEdited 213 = .ok (.if_icmp .eq 7, 3) := by decide +kernel
theorem dL_isEdited_216 : decode cL_isEdited 216 = .ok (.iconst 1, 1) := by decide +kernel
theorem dL_isEdited_217 : decode cL_isEdited 217 = .ok (.goto 4, 3) := by decide +kernel
theorem dL_isEdited_220 : decode cL_isEdited 220 = .ok (.iconst 0, 1) := by decide +kernel
theorem dL_isEdited_221 : decode cL_isEdited 221 = .ok (.istore 8, 2) := by decide +kernel
theorem dL_isEdited_223 : decode cL_isEdited 223 = .ok (.goto 84, 3) := by decide +kernel
theorem dL_isEdited_226 : decode cL_isEdited 226 = .ok (.iload 13, 2) := by decide +kernel
theorem dL_isEdited_228 : decode cL_isEdited 228 = .ok (.iconst 4, 1) := by decide +kernel
theorem dL_isEdited_229 : decode cL_isEdited 229 = .ok (.if_icmp .ne 64, 3) := by decide +kernel
theorem dL_isEdited_232 : decode cL_isEdited 232 = .ok (.iload 7, 2) := by decide +kernel
theorem dL_isEdited_234 : decode cL_isEdited 234 = .ok (.aload_n 1, 1) := by decide +kernel
theorem dL_isEdited_235 : decode cL_isEdited 235 = .ok (.iconst 3, 1) := by decide +kernel
theorem dL_isEdited_236 : decode cL_isEdited 236 = .ok (.iaload, 1) := by decide +kernel
theorem dL_isEdited_237 : decode cL_isEdited 237 = .ok (.iadd, 1) := by decide +kernel
theorem dL_isEdited_238 : decode cL_isEdited 238 = .ok (.istore 7, 2) := by decide +kernel
theorem dL_isEdited_240 : decode cL_isEdited 240 = .ok (.iload 8, 2) := by decide +kernel
theorem dL_isEdited_242 : decode cL_isEdited 242 = .ok (.ifCond .eq 45, 3) := by decide +kernel
theorem dL_isEdited_245 : decode cL_isEdited 245 = .ok (.aload_n 0, 1) := by decide +kernel
theorem dL_isEdited_246 : decode cL_isEdited 246 = .ok (.iload_n 2, 1) := by decide +kernel
theorem dL_isEdited_247 : decode cL_isEdited 247 = .ok (.iload 5, 2) := by decide +kernel
theorem dL_isEdited_249 : decode cL_isEdited 249 = .ok (.invokevirtual 36, 3) := by decide +kernel
theorem dL_isEdited_252 : decode cL_isEdited 252 = .ok (.aload_n 0, 1) := by decide +kernel
theorem dL_isEdited_253 : decode cL_isEdited 253 = .ok (.iload_n 3, 1) := by decide +kernel
theorem dL_isEdited_254 : decode cL_isEdited 254 = .ok (.iload 6, 2) := by decide +kernel
theorem dL_isEdited_256 : decode cL_isEdited 256 = .ok (.iconst 1, 1) := by decide +kernel
theorem dL_isEdited_257 : decode cL_isEdited 257 = .ok (.iadd, 1) := by decide +kernel
theorem dL_isEdited_258 : decode cL_isEdited 258 = .ok (.invokevirtual 36, 3) := by decide +kernel
theorem dL_isEdited_261 : decode cL_isEdited 261 = .ok (.if_icmp .ne 26, 3) := by decide +kernel
theorem dL_isEdited_264 : decode cL_isEdited 264 = .ok (.aload_n 0, 1) := by decide +kernel
theorem dL_isEdited_265 : decode cL_isEdited 265 = .ok (.iload_n 2, 1) := by decide +kernel
theorem dL_isEdited_266 : decode cL_isEdited 266 = .ok (.iload 5, 2) := by decide +kernel
theorem dL_isEdited_268 : decode cL_isEdited 268 = .ok (.iconst 1, 1) := by decide +kernel
theorem dL_isEdited_269 : decode cL_isEdited 269 = .ok (.iadd, 1) := by decide +kernel
theorem dL_isEdited_270 : decode cL_isEdited 270 = .ok (.invokevirtual 36, 3) := by decide +kernel
theorem dL_isEdited_273 : decode cL_isEdited 273 = .ok (.aload_n 0, 1) := by decide +kernel
theorem dL_isEdited_274 : decode cL_isEdited 274 = .ok (.iload_n 3, 1) := by decide +kernel
theorem dL_isEdited_275 : decode cL_isEdited 275 = .ok (.iload 6, 2) := by decide +kernel
theorem dL_isEdited_277 : decode cL_isEdited 277 = .ok (.invokevirtual 36, 3) := by decide +kernel
theorem dL_isEdited_280 : decode cL_isEdited 280 = .ok (.if_icmp .ne 7, 3) := by decide +kernel
theorem dL_isEdited_283 : decode cL_isEdited 283 = .ok (.iconst 1, 1) := by decide +kernel
theorem dL_isEdited_284 : decode cL_isEdited 284 = .ok (.goto 4, 3) := by decide +kernel
theorem dL_isEdited_287 : decode cL_isEdited 287 = .ok (.iconst 0, 1) := by decide +kernel
theorem dL_isEdited_288 : decode cL_isEdited 288 = .ok (.istore 8, 2) := by decide +kernel
theorem dL_isEdited_290 : decode cL_isEdited 290 = .ok (.goto 17, 3) := by decide +kernel
theorem dL_isEdited_293 : decode cL_isEdited 293 = .ok (.iload 13, 2) := by decide +kernel
theorem dL_isEdited_295 : decode cL_isEdited 295 = .ok (.iconst 1, 1) := by decide +kernel
theorem dL_isEdited_296 : decode cL_isEdited 296 = .ok (.if_icmp .le 11, 3) := by decide +kernel
theorem dL_isEdited_299 : decode cL_isEdited 299 = .ok (.iload 7, 2) := by decide +kernel
theorem dL_isEdited_301 : decode cL_isEdited 301 = .ok (.aload_n 1, 1) := by decide +kernel
theorem dL_isEdited_302 : decode cL_isEdited 302 = .ok (.iconst 0, 1) := by decide +kernel
theorem dL_isEdited_303 : decode cL_isEdited 303 = .ok (.iaload, 1) := by decide +kernel
theorem dL_isEdited_304 : decode cL_isEdited 304 = .ok (.iadd, 1) := by decide +kernel
theorem dL_isEdited_305 : decode cL_isEdited 305 = .ok (.istore 7, 2) := by decide +kernel
theorem dL_isEdited_307 : decode cL_isEdited 307 = .ok (.iload 5, 2) := by decide +kernel
theorem dL_isEdited_309 : decode cL_isEdited 309 = .ok (.iload 13, 2) := by decide +kernel
theorem dL_isEdited_311 : decode cL_isEdited 311 = .ok (.ifCond .eq 9, 3) := by decide +kernel
theorem dL_isEdited_314 : decode cL_isEdited 314 = .ok (.iload 13, 2) := by decide +kernel
theorem dL_isEdited_316 : decode cL_isEdited 316 = .ok (.iconst 3, 1) := by decide +kernel
theorem dL_isEdited_317 : decode cL_isEdited 317 = .ok (.if_icmp .ne 7, 3) := by decide +kernel
theorem dL_isEdited_320 : decode cL_isEdited 320 = .ok (.iconst 0, 1) := by decide +kernel
theorem dL_isEdited_321 : decode cL_isEdited 321 = .ok (.goto 14, 3) := by decide +kernel
theorem dL_isEdited_324 : decode cL_isEdited 324 = .ok (.iload 13, 2) := by decide +kernel
theorem dL_isEdited_326 : decode cL_isEdited 326 = .ok (.iconst 4, 1) := by decide +kernel
theorem dL_isEdited_327 : decode cL_isEdited 327 = .ok (.if_icmp .ne 7, 3) := by decide +kernel
theorem dL_isEdited_330 : decode cL_isEdited 330 = .ok (.iconst 2, 1) := by decide +kernel
theorem dL_isEdited_331 : decode cL_isEdited 331 = .ok (.goto 4, 3) := by decide +kernel
theorem dL_isEdited_334 : decode cL_isEdited 334 = .ok (.iconst 1, 1) := by decide +kernel
theorem dL_isEdited_335 : decode cL_isEdited 335 = .ok (.iadd, 1) := by decide +kernel
theorem dL_isEdited_336 : decode cL_isEdited 336 = .ok (.istore 5, 2) := by decide +kernel
theorem dL_isEdited_338 : decode cL_isEdited 338 = .ok (.iload 6, 2) := by decide +kernel
theorem dL_isEdited_340 : decode cL_isEdited 340 = .ok (.iload 13, 2) := by decide +kernel
theorem dL_isEdited_342 : decode cL_isEdited 342 = .ok (.ifCond .eq 9, 3) := by decide +kernel
theorem dL_isEdited_345 : decode cL_isEdited 345 = .ok (.iload 13, 2) := by decide +kernel
theorem dL_isEdited_347 : decode cL_isEdited 347 = .ok (.iconst 2, 1) := by decide +kernel
theorem dL_isEdited_348 : decode cL_isEdited 348 = .ok (.if_icmp .ne 7, 3) := by decide +kernel
theorem dL_isEdited_351 : decode cL_isEdited 351 = .ok (.iconst 0, 1) := by decide +kernel
theorem dL_isEdited_352 : decode cL_isEdited 352 = .ok (.goto 14, 3) := by decide +kernel
theorem dL_isEdited_355 : decode cL_isEdited 355 = .ok (.iload 13, 2) := by decide +kernel
theorem dL_isEdited_357 : decode cL_isEdited 357 = .ok (.iconst 4, 1) := by decide +kernel
theorem dL_isEdited_358 : decode cL_isEdited 358 = .ok (.if_icmp .ne 7, 3) := by decide +kernel
theorem dL_isEdited_361 : decode cL_isEdited 361 = .ok (.iconst 2, 1) := by decide +kernel
theorem dL_isEdited_362 : decode cL_isEdited 362 = .ok (.goto 4, 3) := by decide +kernel
theorem dL_isEdited_365 : decode cL_isEdited 365 = .ok (.iconst 1, 1) := by decide +kernel
theorem dL_isEdited_366 : decode cL_isEdited 366 = .ok (.iadd, 1) := by decide +kernel
theorem dL_isEdited_367 : decode cL_isEdited 367 = .ok (.istore 6, 2) := by decide +kernel
theorem dL_isEdited_369 : decode cL_isEdited 369 = .ok (.iinc 9 1, 3) := by decide +kernel
theorem dL_isEdited_372 : decode cL_isEdited 372 = .ok (.goto (-349), 3) := by decide +kernel
theorem dL_isEdited_375 : decode cL_isEdited 375 = .ok (.iload 8, 2) := by decide +kernel
theorem dL_isEdited_377 : decode cL_isEdited 377 = .ok (.ifCond .eq 51, 3) := by decide +kernel
theorem dL_isEdited_380 : decode cL_isEdited 380 = .ok (.iload 5, 2) := by decide +kernel
theorem dL_isEdited_382 : decode cL_isEdited 382 = .ok (.aload_n 0, 1) := by decide +kernel
theorem dL_isEdited_383 : decode cL_isEdited 383 = .ok (.iload_n 2, 1) := by decide +kernel
theorem dL_isEdited_384 : decode cL_isEdited 384 = .ok (.invokevirtual 26, 3) := by decide +kernel
theorem dL_isEdited_387 : decode cL_isEdited 387 = .ok (.if_icmp .ne 41, 3) := by decide +kernel
theorem dL_isEdited_390 : decode cL_isEdited 390 = .ok (.iload 6, 2) := by decide +kernel
theorem dL_isEdited_392 : decode cL_isEdited 392 = .ok (.aload_n 0, 1) := by decide +kernel
theorem dL_isEdited_393 : decode cL_isEdited 393 = .ok (.iload_n 3, 1) := by decide +kernel
theorem dL_isEdited_394 : decode cL_isEdited 394 = .ok (.invokevirtual 26, 3) := by decide +kernel
theorem dL_isEdited_397 : decode cL_isEdited 397 = .ok (.if_icmp .ne 31, 3) := by decide +kernel
theorem dL_isEdited_400 : decode cL_isEdited 400 = .ok (.iload 7, 2) := by decide +kernel
theorem dL_isEdited_402 : decode cL_isEdited 402 = .ok (.aload_n 0, 1) := by decide +kernel
theorem dL_isEdited_403 : decode cL_isEdited 403 = .ok (.iload_n 2, 1) := by decide +kernel
theorem dL_isEdited_404 : decode cL_isEdited 404 = .ok (.iload_n 3, 1) := by decide +kernel
theorem dL_isEdited_405 : decode cL_isEdited 405 = .ok (.invokevirtual 45, 3) := by decide +kernel
theorem dL_isEdited_408 : decode cL_isEdited 408 = .ok (.if_icmp .ne 20, 3) := by decide +kernel
theorem dL_isEdited_411 : decode cL_isEdited 411 = .ok (.aload_n 0, 1) := by decide +kernel
theorem dL_isEdited_412 : decode cL_isEdited 412 = .ok (.iload_n 2, 1) := by decide +kernel
theorem dL_isEdited_413 : decode cL_isEdited 413 = .ok (.iload_n 3, 1) := by decide +kernel
theorem dL_isEdited_414 : decode cL_isEdited 414 = .ok (.iload 4, 2) := by decide +kernel
theorem dL_isEdited_416 : decode cL_isEdited 416 = .ok (.invokevirtual 32, 3) := by decide +kernel
theorem dL_isEdited_419 : decode cL_isEdited 419 = .ok (.bipush (-4), 2) := by decide +kernel
theorem dL_isEdited_421 : decode cL_isEdited 421 = .ok (.if_icmp .ne 7, 3) := by decide +kernel
theorem dL_isEdited_424 : decode cL_isEdited 424 = .ok (.iconst 1, 1) := by decide +kernel
theorem dL_isEdited_425 : decode cL_isEdited 425 = .ok (.goto 4, 3) := by decide +kernel
theorem dL_isEdited_428 : decode cL_isEdited 428 = .ok (.iconst 0, 1) := by decide +kernel
theorem dL_isEdited_429 : decode cL_isEdited 429 = .ok (.ireturn, 1) := by decide +kernel
theorem dL_isWhole_0 : decode cL_isWhole 0 = .ok (.aload_n 0, 1) := by decide +kernel
theorem dL_isWhole_1 : decode cL_isWhole 1 = .ok (.invokevirtual 19, 3) := by decide +kernel
theorem dL_isWhole_4 : decode cL_isWhole 4 = .ok (.istore_n 2, 1) := by decide +kernel
theorem dL_isWhole_5 : decode cL_isWhole 5 = .ok (.iconst 0, 1) := by decide +kernel
theorem dL_isWhole_6 : decode cL_isWhole 6 = .ok (.istore_n 3, 1) := by decide +kernel
theorem dL_isWhole_7 : decode cL_isWhole 7 = .ok (.aload_n 0, 1) := by decide +kernel
theorem dL_isWhole_8 : decode cL_isWhole 8 = .ok (.iload_n 2, 1) := by decide +kernel
theorem dL_isWhole_9 : decode cL_isWhole 9 = .ok (.invokevirtual 48, 3) := by decide +kernel
theorem dL_isWhole_12 : decode cL_isWhole 12 = .ok (.bipush (-4), 2) := by decide +kernel
theorem dL_isWhole_14 : decode cL_isWhole 14 = .ok (.if_icmp .ne 7, 3) := by decide +kernel
theorem dL_isWhole_17 : decode cL_isWhole 17 = .ok (.iconst 1, 1) := by decide +kernel
theorem dL_isWhole_18 : decode cL_isWhole 18 = .ok (.goto 4, 3) := by decide +kernel
theorem dL_isWhole_21 : decode cL_isWhole 21 = .ok (.iconst 0, 1) := by decide +kernel
theorem dL_isWhole_22 : decode cL_isWhole 22 = .ok (.istore 4, 2) := by decide +kernel
theorem dL_isWhole_24 : decode cL_isWhole 24 = .ok (.iconst 0, 1) := by decide +kernel
theorem dL_isWhole_25 : decode cL_isWhole 25 = .ok (.istore 5, 2) := by decide +kernel
theorem dL_isWhole_27 : decode cL_isWhole 27 = .ok (.iload 5, 2) := by decide +kernel
theorem dL_isWhole_29 : decode cL_isWhole 29 = .ok (.iload_n 2, 1) := by decide +kernel
theorem dL_isWhole_30 : decode cL_isWhole 30 = .ok (.if_icmp .ge 25, 3) := by decide +kernel
theorem dL_isWhole_33 : decode cL_isWhole 33 = .ok (.iload 4, 2) := by decide +kernel
theorem dL_isWhole_35 : decode cL_isWhole 35 = .ok (.ifCond .eq 20, 3) := by decide +kernel
theorem dL_isWhole_38 : decode cL_isWhole 38 = .ok (.iload_n 3, 1) := by decide +kernel
theorem dL_isWhole_39 : decode cL_isWhole 39 = .ok (.iconst 1, 1) := by decide +kernel
theorem dL_isWhole_40 : decode cL_isWhole 40 = .ok (.aload_n 0, 1) := by decide +kernel
theorem dL_isWhole_41 : decode cL_isWhole 41 = .ok (.iload 5, 2) := by decide +kernel
theorem dL_isWhole_43 : decode cL_isWhole 43 = .ok (.invokevirtual 48, 3) := by decide +kernel
theorem dL_isWhole_46 : decode cL_isWhole 46 = .ok (.ishl, 1) := by decide +kernel
theorem dL_isWhole_47 : decode cL_isWhole 47 = .ok (.ior, 1) := by decide +kernel
theorem dL_isWhole_48 : decode cL_isWhole 48 = .ok (.istore_n 3, 1) := by decide +kernel
theorem dL_isWhole_49 : decode cL_isWhole 49 = .ok (.iinc 5 1, 3) := by decide +kernel
theorem dL_isWhole_52 : decode cL_isWhole 52 = .ok (.goto (-25), 3) := by decide +kernel
theorem dL_isWhole_55 : decode cL_isWhole 55 = .ok (.iload 4, 2) := by decide +kernel
theorem dL_isWhole_57 : decode cL_isWhole 57 = .ok (.ifCond .eq 16, 3) := by decide +kernel
theorem dL_isWhole_60 : decode cL_isWhole 60 = .ok (.iload_n 3, 1) := by decide +kernel
theorem dL_isWhole_61 : decode cL_isWhole 61 = .ok (.iconst 1, 1) := by decide +kernel
theorem dL_isWhole_62 : decode cL_isWhole 62 = .ok (.iload_n 2, 1) := by decide +kernel
theorem dL_isWhole_63 : decode cL_isWhole 63 = .ok (.ishl, 1) := by decide +kernel
theorem dL_isWhole_64 : decode cL_isWhole 64 = .ok (.iconst 1, 1) := by decide +kernel
theorem dL_isWhole_65 : decode cL_isWhole 65 = .ok (.isub, 1) := by decide +kernel
theorem dL_isWhole_66 : decode cL_isWhole 66 = .ok (.if_icmp .ne 7, 3) := by decide +kernel
theorem dL_isWhole_69 : decode cL_isWhole 69 = .ok (.iconst 1, 1) := by decide +kernel
theorem dL_isWhole_70 : decode cL_isWhole 70 = .ok (.goto 4, 3) := by decide +kernel
theorem dL_isWhole_73 : decode cL_isWhole 73 = .ok (.iconst 0, 1) := by decide +kernel
theorem dL_isWhole_74 : decode cL_isWhole 74 = .ok (.istore 4, 2) := by decide +kernel
theorem dL_isWhole_76 : decode cL_isWhole 76 = .ok (.iconst 0, 1) := by decide +kernel
theorem dL_isWhole_77 : decode cL_isWhole 77 = .ok (.istore 5, 2) := by decide +kernel
theorem dL_isWhole_79 : decode cL_isWhole 79 = .ok (.iload 5, 2) := by decide +kernel
theorem dL_isWhole_81 : decode cL_isWhole 81 = .ok (.iload_n 2, 1) := by decide +kernel
theorem dL_isWhole_82 : decode cL_isWhole 82 = .ok (.if_icmp .ge 249, 3) := by decide +kernel
theorem dL_isWhole_85 : decode cL_isWhole 85 = .ok (.iload 4, 2) := by decide +kernel
theorem dL_isWhole_87 : decode cL_isWhole 87 = .ok (.ifCond .eq 244, 3) := by decide +kernel
theorem dL_isWhole_90 : decode cL_isWhole 90 = .ok (.sipush 10000, 3) := by decide +kernel
theorem dL_isWhole_93 : decode cL_isWhole 93 = .ok (.istore 6, 2) := by decide +kernel
theorem dL_isWhole_95 : decode cL_isWhole 95 = .ok (.iconst 0, 1) := by decide +kernel
theorem dL_isWhole_96 : decode cL_isWhole 96 = .ok (.istore 7, 2) := by decide +kernel
theorem dL_isWhole_98 : decode cL_isWhole 98 = .ok (.iload 7, 2) := by decide +kernel
theorem dL_isWhole_100 : decode cL_isWhole 100 = .ok (.iload_n 2, 1) := by decide +kernel
theorem dL_isWhole_101 : decode cL_isWhole 101 = .ok (.if_icmp .ge 158, 3) := by decide +kernel
theorem dL_isWhole_104 : decode cL_isWhole 104 = .ok (.iload 4, 2) := by decide +kernel
theorem dL_isWhole_106 : decode cL_isWhole 106 = .ok (.ifCond .eq 153, 3) := by decide +kernel
theorem dL_isWhole_109 : decode cL_isWhole 109 = .ok (.aload_n 0, 1) := by decide +kernel
theorem dL_isWhole_110 : decode cL_isWhole 110 = .ok (.iload 5, 2) := by decide +kernel
theorem dL_isWhole_112 : decode cL_isWhole 112 = .ok (.iload 7, 2) := by decide +kernel
theorem dL_isWhole_114 : decode cL_isWhole 114 = .ok (.invokevirtual 45, 3) := by decide +kernel
theorem dL_isWhole_117 : decode cL_isWhole 117 = .ok (.istore 8, 2) := by decide +kernel
theorem dL_isWhole_119 : decode cL_isWhole 119 = .ok (.aload_n 1, 1) := by decide +kernel
theorem dL_isWhole_120 : decode cL_isWhole 120 = .ok (.iconst 0, 1) := by decide +kernel
theorem dL_isWhole_121 : decode cL_isWhole 121 = .ok (.iaload, 1) := by decide +kernel
theorem dL_isWhole_122 : decode cL_isWhole 122 = .ok (.aload_n 0, 1) := by decide +kernel
theorem dL_isWhole_123 : decode cL_isWhole 123 = .ok (.iload 5, 2) := by decide +kernel
theorem dL_isWhole_125 : decode cL_isWhole 125 = .ok (.invokevirtual 26, 3) := by decide +kernel
theorem dL_isWhole_128 : decode cL_isWhole 128 = .ok (.aload_n 0, 1) := by decide +kernel
theorem dL_isWhole_129 : decode cL_isWhole 129 = .ok (.iload 7, 2) := by decide +kernel
theorem dL_isWhole_131 : decode cL_isWhole 131 = .ok (.invokevirtual 26, 3) := by decide +kernel
theorem dL_isWhole_134 : decode cL_isWhole 134 = .ok (.iadd, 1) := by decide +kernel
theorem dL_isWhole_135 : decode cL_isWhole 135 = .ok (.imul, 1) := by decide +kernel
theorem dL_isWhole_136 : decode cL_isWhole 136 = .ok (.istore 9, 2) := by decide +kernel
theorem dL_isWhole_138 : decode cL_isWhole 138 = .ok (.iload 8, 2) := by decide +kernel
theorem dL_isWhole_140 : decode cL_isWhole 140 = .ok (.aload_n 0, 1) := by decide +kernel
theorem dL_isWhole_141 : decode cL_isWhole 141 = .ok (.iload 7, 2) := by decide +kernel
theorem dL_isWhole_143 : decode cL_isWhole 143 = .ok (.iload 5, 2) := by decide +kernel
theorem dL_isWhole_145 : decode cL_isWhole 145 = .ok (.invokevirtual 45, 3) := by decide +kernel
theorem dL_isWhole_148 : decode cL_isWhole 148 = .ok (.if_icmp .ne 79, 3) := by decide +kernel
theorem dL_isWhole_151 : decode cL_isWhole 151 = .ok (.iload 8, 2) := by decide +kernel
theorem dL_isWhole_153 : decode cL_isWhole 153 = .ok (.ifCond .lt 74, 3) := by decide +kernel
theorem dL_isWhole_156 : decode cL_isWhole 156 = .ok (.iload 8, 2) := by decide +kernel
theorem dL_isWhole_158 : decode cL_isWhole 158 = .ok (.iload 9, 2) := by decide +kernel
theorem dL_isWhole_160 : decode cL_isWhole 160 = .ok (.if_icmp .gt 67, 3) := by decide +kernel
theorem dL_isWhole_163 : decode cL_isWhole 163 = .ok (.iload 8, 2) := by decide +kernel
theorem dL_isWhole_165 : decode cL_isWhole 165 = .ok (.ifCond .ne 7, 3) := by decide +kernel
theorem dL_isWhole_168 : decode cL_isWhole 168 = .ok (.iconst 1, 1) := by decide +kernel
theorem dL_isWhole_169 : decode cL_isWhole 169 = .ok (.goto 4, 3) := by decide +kernel
theorem dL_isWhole_172 : decode cL_isWhole 172 = .ok (.iconst 0, 1) := by decide +kernel
theorem dL_isWhole_173 : decode cL_isWhole 173 = .ok (.aload_n 0, 1) := by decide +kernel
theorem dL_isWhole_174 : decode cL_isWhole 174 = .ok (.iload 5, 2) := by decide +kernel
theorem dL_isWhole_176 : decode cL_isWhole 176 = .ok (.iload 7, 2) := by decide +kernel
theorem dL_isWhole_178 : decode cL_isWhole 178 = .ok (.invokevirtual 29, 3) := by decide +kernel
theorem dL_isWhole_181 : decode cL_isWhole 181 = .ok (.ifCond .ne 7, 3) := by decide +kernel
theorem dL_isWhole_184 : decode cL_isWhole 184 = .ok (.iconst 1, 1) := by decide +kernel
theorem dL_isWhole_185 : decode cL_isWhole 185 = .ok (.goto 4, 3) := by decide +kernel
theorem dL_isWhole_188 : decode cL_isWhole 188 = .ok (.iconst 0, 1) := by decide +kernel
theorem dL_isWhole_189 : decode cL_isWhole 189 = .ok (.if_icmp .ne 38, 3) := by decide +kernel
theorem dL_isWhole_192 : decode cL_isWhole 192 = .ok (.aload_n 0, 1) := by decide +kernel
theorem dL_isWhole_193 : decode cL_isWhole 193 = .ok (.aload_n 1, 1) := by decide +kernel
theorem dL_isWhole_194 : decode cL_isWhole 194 = .ok (.iload 5, 2) := by decide +kernel
theorem dL_isWhole_196 : decode cL_isWhole 196 = .ok (.iload 7, 2) := by decide +kernel
theorem dL_isWhole_198 : decode cL_isWhole 198 = .ok (.invokestatic 51, 3) := by decide +kernel
theorem dL_isWhole_201 : decode cL_isWhole 201 = .ok (.ifCond .eq 26, 3) := by decide +kernel
theorem dL_isWhole_204 : decode cL_isWhole 204 = .ok (.aload_n 0, 1) := by decide +kernel
theorem dL_isWhole_205 : decode cL_isWhole 205 = .ok (.iload 5, 2) := by decide +kernel
theorem dL_isWhole_207 : decode cL_isWhole 207 = .ok (.iload 7, 2) := by decide +kernel
theorem dL_isWhole_209 : decode cL_isWhole 209 = .ok (.invokevirtual 55, 3) := by decide +kernel
theorem dL_isWhole_212 : decode cL_isWhole 212 = .ok (.aload_n 0, 1) := by decide +kernel
theorem dL_isWhole_213 : decode cL_isWhole 213 = .ok (.iload 7, 2) := by decide +kernel
theorem dL_isWhole_215 : decode cL_isWhole 215 = .ok (.iload 5, 2) := by decide +kernel
theorem dL_isWhole_217 : decode cL_isWhole 217 = .ok (.invokevirtual 55, 3) := by decide +kernel
theorem dL_isWhole_220 : decode cL_isWhole 220 = .ok (.if_icmp .ne 7, 3) := by decide +kernel
theorem dL_isWhole_223 : decode cL_isWhole 223 = .ok (.iconst 1, 1) := by decide +kernel
theorem dL_isWhole_224 : decode cL_isWhole 224 = .ok (.goto 4, 3) := by decide +kernel
theorem dL_isWhole_227 : decode cL_isWhole 227 = .ok (.iconst 0, 1) := by decide +kernel
theorem dL_isWhole_228 : decode cL_isWhole 228 = .ok (.istore 4, 2) := by decide +kernel
theorem dL_isWhole_230 : decode cL_isWhole 230 = .ok (.iload 5, 2) := by decide +kernel
theorem dL_isWhole_232 : decode cL_isWhole 232 = .ok (.iload 7, 2) := by decide +kernel
theorem dL_isWhole_234 : decode cL_isWhole 234 = .ok (.if_icmp .eq 15, 3) := by decide +kernel
theorem dL_isWhole_237 : decode cL_isWhole 237 = .ok (.iload 8, 2) := by decide +kernel
theorem dL_isWhole_239 : decode cL_isWhole 239 = .ok (.iload 6, 2) := by decide +kernel
theorem dL_isWhole_241 : decode cL_isWhole 241 = .ok (.if_icmp .ge 8, 3) := by decide +kernel
theorem dL_isWhole_244 : decode cL_isWhole 244 = .ok (.iload 8, 2) := by decide +kernel
theorem dL_isWhole_246 : decode cL_isWhole 246 = .ok (.goto 5, 3) := by decide +kernel
theorem dL_isWhole_249 : decode cL_isWhole 249 = .ok (.iload 6, 2) := by decide +kernel
theorem dL_isWhole_251 : decode cL_isWhole 251 = .ok (.istore 6, 2) := by decide +kernel
theorem dL_isWhole_253 : decode cL_isWhole 253 = .ok (.iinc 7 1, 3) := by decide +kernel
theorem dL_isWhole_256 : decode cL_isWhole 256 = .ok (.goto (-158), 3) := by decide +kernel
theorem dL_isWhole_259 : decode cL_isWhole 259 = .ok (.aload_n 0, 1) := by decide +kernel
theorem dL_isWhole_260 : decode cL_isWhole 260 = .ok (.iload 5, 2) := by decide +kernel
theorem dL_isWhole_262 : decode cL_isWhole 262 = .ok (.invokevirtual 58, 3) := by decide +kernel
theorem dL_isWhole_265 : decode cL_isWhole 265 = .ok (.istore 7, 2) := by decide +kernel
theorem dL_isWhole_267 : decode cL_isWhole 267 = .ok (.iload 4, 2) := by decide +kernel
theorem dL_isWhole_269 : decode cL_isWhole 269 = .ok (.ifCond .eq 53, 3) := by decide +kernel
theorem dL_isWhole_272 : decode cL_isWhole 272 = .ok (.aload_n 0, 1) := by decide +kernel
theorem dL_isWhole_273 : decode cL_isWhole 273 = .ok (.iload 5, 2) := by decide +kernel
theorem dL_isWhole_275 : decode cL_isWhole 275 = .ok (.iload 5, 2) := by decide +kernel
theorem dL_isWhole_277 : decode cL_isWhole 277 = .ok (.invokevirtual 45, 3) := by decide +kernel
theorem dL_isWhole_280 : decode cL_isWhole 280 = .ok (.ifCond .ne 42, 3) := by decide +kernel
theorem dL_isWhole_283 : decode cL_isWhole 283 = .ok (.iload_n 2, 1) := by decide +kernel
theorem dL_isWhole_284 : decode cL_isWhole 284 = .ok (.iconst 1, 1) := by decide +kernel
theorem dL_isWhole_285 : decode cL_isWhole 285 = .ok (.if_icmp .ne 13, 3) := by decide +kernel
theorem dL_isWhole_288 : decode cL_isWhole 288 = .ok (.iload 7, 2) := by decide +kernel
theorem dL_isWhole_290 : decode cL_isWhole 290 = .ok (.bipush (-4), 2) := by decide +kernel
theorem dL_isWhole_292 : decode cL_isWhole 292 = .ok (.if_icmp .ne 30, 3) := by decide +kernel
theorem dL_isWhole_295 : decode cL_isWhole 295 = .ok (.goto 23, 3) := by decide +kernel
theorem dL_isWhole_298 : decode cL_isWhole 298 = .ok (.iload 7, 2) := by decide +kernel
theorem dL_isWhole_300 : decode cL_isWhole 300 = .ok (.iload 5, 2) := by decide +kernel
theorem dL_isWhole_302 : decode cL_isWhole 302 = .ok (.if_icmp .eq 20, 3) := by decide +kernel
theorem dL_isWhole_305 : decode cL_isWhole 305 = .ok (.aload_n 0, 1) := by decide +kernel
theorem dL_isWhole_306 : decode cL_isWhole 306 = .ok (.iload 5, 2) := by decide +kernel
theorem dL_isWhole_308 : decode cL_isWhole 308 = .ok (.iload 7, 2) := by decide +kernel
theorem dL_isWhole_310 : decode cL_isWhole 310 = .ok (.invokevirtual 45, 3) := by decide +kernel
theorem dL_isWhole_313 : decode cL_isWhole 313 = .ok (.iload 6, 2) := by decide +kernel
theorem dL_isWhole_315 : decode cL_isWhole 315 = .ok (.if_icmp .ne 7, 3) := by decide +kernel
theorem dL_isWhole_318 : decode cL_isWhole 318 = .ok (.iconst 1, 1) := by decide +kernel
theorem dL_isWhole_319 : decode cL_isWhole 319 = .ok (.goto 4, 3) := by decide +kernel
theorem dL_isWhole_322 : decode cL_isWhole 322 = .ok (.iconst 0, 1) := by decide +kernel
theorem dL_isWhole_323 : decode cL_isWhole 323 = .ok (.istore 4, 2) := by decide +kernel
theorem dL_isWhole_325 : decode cL_isWhole 325 = .ok (.iinc 5 1, 3) := by decide +kernel
theorem dL_isWhole_328 : decode cL_isWhole 328 = .ok (.goto (-249), 3) := by decide +kernel
theorem dL_isWhole_331 : decode cL_isWhole 331 = .ok (.iload 4, 2) := by decide +kernel
theorem dL_isWhole_333 : decode cL_isWhole 333 = .ok (.ifCond .eq 15, 3) := by decide +kernel
theorem dL_isWhole_336 : decode cL_isWhole 336 = .ok (.aload_n 0, 1) := by decide +kernel
theorem dL_isWhole_337 : decode cL_isWhole 337 = .ok (.iload_n 2, 1) := by decide +kernel
theorem dL_isWhole_338 : decode cL_isWhole 338 = .ok (.invokestatic 61, 3) := by decide +kernel
theorem dL_isWhole_341 : decode cL_isWhole 341 = .ok (.ifCond .eq 7, 3) := by decide +kernel
theorem dL_isWhole_344 : decode cL_isWhole 344 = .ok (.iconst 1, 1) := by decide +kernel
theorem dL_isWhole_345 : decode cL_isWhole 345 = .ok (.goto 4, 3) := by decide +kernel
theorem dL_isWhole_348 : decode cL_isWhole 348 = .ok (.iconst 0, 1) := by decide +kernel
theorem dL_isWhole_349 : decode cL_isWhole 349 = .ok (.ireturn, 1) := by decide +kernel
theorem dL_areGroups_0 : decode cL_areGroups 0 = .ok (.aload_n 0, 1) := by decide +kernel
theorem dL_areGroups_1 : decode cL_areGroups 1 = .ok (.iconst 3, 1) := by decide +kernel
theorem dL_areGroups_2 : decode cL_areGroups 2 = .ok (.invokevirtual 65, 3) := by decide +kernel
theorem dL_areGroups_5 : decode cL_areGroups 5 = .ok (.istore_n 2, 1) := by decide +kernel
theorem dL_areGroups_6 : decode cL_areGroups 6 = .ok (.aload_n 0, 1) := by decide +kernel
theorem dL_areGroups_7 : decode cL_areGroups 7 = .ok (.invokevirtual 68, 3) := by decide +kernel
theorem dL_areGroups_10 : decode cL_areGroups 10 = .ok (.ifCond .lt 7, 3) := by decide +kernel
theorem dL_areGroups_13 : decode cL_areGroups 13 = .ok (.iconst 1, 1) := by decide +kernel
theorem dL_areGroups_14 : decode cL_areGroups 14 = .ok (.goto 4, 3) := by decide +kernel
theorem dL_areGroups_17 : decode cL_areGroups 17 = .ok (.iconst 0, 1) := by decide +kernel
theorem dL_areGroups_18 : decode cL_areGroups 18 = .ok (.istore_n 3, 1) := by decide +kernel
theorem dL_areGroups_19 : decode cL_areGroups 19 = .ok (.aload_n 0, 1) := by decide +kernel
theorem dL_areGroups_20 : decode cL_areGroups 20 = .ok (.invokevirtual 71, 3) := by decide +kernel
theorem dL_areGroups_23 : decode cL_areGroups 23 = .ok (.istore 4, 2) := by decide +kernel
theorem dL_areGroups_25 : decode cL_areGroups 25 = .ok (.iconst 0, 1) := by decide +kernel
theorem dL_areGroups_26 : decode cL_areGroups 26 = .ok (.istore 5, 2) := by decide +kernel
theorem dL_areGroups_28 : decode cL_areGroups 28 = .ok (.iconst 0, 1) := by decide +kernel
theorem dL_areGroups_29 : decode cL_areGroups 29 = .ok (.istore 6, 2) := by decide +kernel
theorem dL_areGroups_31 : decode cL_areGroups 31 = .ok (.iload 6, 2) := by decide +kernel
theorem dL_areGroups_33 : decode cL_areGroups 33 = .ok (.iload 4, 2) := by decide +kernel
theorem dL_areGroups_35 : decode cL_areGroups 35 = .ok (.if_icmp .ge 131, 3) := by decide +kernel
theorem dL_areGroups_38 : decode cL_areGroups 38 = .ok (.iload_n 3, 1) := by decide +kernel
theorem dL_areGroups_39 : decode cL_areGroups 39 = .ok (.ifCond .eq 127, 3) := by decide +kernel
theorem dL_areGroups_42 : decode cL_areGroups 42 = .ok (.aload_n 0, 1) := by decide +kernel
theorem dL_areGroups_43 : decode cL_areGroups 43 = .ok (.iload 6, 2) := by decide +kernel
theorem dL_areGroups_45 : decode cL_areGroups 45 = .ok (.invokevirtual 74, 3) := by decide +kernel
theorem dL_areGroups_48 : decode cL_areGroups 48 = .ok (.istore 7, 2) := by decide +kernel
theorem dL_areGroups_50 : decode cL_areGroups 50 = .ok (.iload 5, 2) := by decide +kernel
theorem dL_areGroups_52 : decode cL_areGroups 52 = .ok (.aload_n 0, 1) := by decide +kernel
theorem dL_areGroups_53 : decode cL_areGroups 53 = .ok (.iload 6, 2) := by decide +kernel
theorem dL_areGroups_55 : decode cL_areGroups 55 = .ok (.iconst 0, 1) := by decide +kernel
theorem dL_areGroups_56 : decode cL_areGroups 56 = .ok (.invokevirtual 77, 3) := by decide +kernel
theorem dL_areGroups_59 : decode cL_areGroups 59 = .ok (.iadd, 1) := by decide +kernel
theorem dL_areGroups_60 : decode cL_areGroups 60 = .ok (.istore 5, 2) := by decide +kernel
theorem dL_areGroups_62 : decode cL_areGroups 62 = .ok (.aload_n 0, 1) := by decide +kernel
theorem dL_areGroups_63 : decode cL_areGroups 63 = .ok (.iload 7, 2) := by decide +kernel
theorem dL_areGroups_65 : decode cL_areGroups 65 = .ok (.invokevirtual 80, 3) := by decide +kernel
theorem dL_areGroups_68 : decode cL_areGroups 68 = .ok (.iload 6, 2) := by decide +kernel
theorem dL_areGroups_70 : decode cL_areGroups 70 = .ok (.if_icmp .ne 46, 3) := by decide +kernel
theorem dL_areGroups_73 : decode cL_areGroups 73 = .ok (.aload_n 0, 1) := by decide +kernel
theorem dL_areGroups_74 : decode cL_areGroups 74 = .ok (.iload 6, 2) := by decide +kernel
theorem dL_areGroups_76 : decode cL_areGroups 76 = .ok (.iconst 2, 1) := by decide +kernel
theorem dL_areGroups_77 : decode cL_areGroups 77 = .ok (.invokevirtual 77, 3) := by decide +kernel
theorem dL_areGroups_80 : decode cL_areGroups 80 = .ok (.iload_n 2, 1) := by decide +kernel
theorem dL_areGroups_81 : decode cL_areGroups 81 = .ok (.if_icmp .gt 35, 3) := by decide +kernel
theorem dL_areGroups_84 : decode cL_areGroups 84 = .ok (.aload_n 0, 1) := by decide +kernel
theorem dL_areGroups_85 : decode cL_areGroups 85 = .ok (.iload 6, 2) := by decide +kernel
theorem dL_areGroups_87 : decode cL_areGroups 87 = .ok (.iconst 1, 1) := by decide +kernel
theorem dL_areGroups_88 : decode cL_areGroups 88 = .ok (.invokevirtual 77, 3) := by decide +kernel
theorem dL_areGroups_91 : decode cL_areGroups 91 = .ok (.iconst 1, 1) := by decide +kernel
theorem dL_areGroups_92 : decode cL_areGroups 92 = .ok (.if_icmp .lt 24, 3) := by decide +kernel
theorem dL_areGroups_95 : decode cL_areGroups 95 = .ok (.aload_n 0, 1) := by decide +kernel
theorem dL_areGroups_96 : decode cL_areGroups 96 = .ok (.iload 6, 2) := by decide +kernel
theorem dL_areGroups_98 : decode cL_areGroups 98 = .ok (.iconst 1, 1) := by decide +kernel
theorem dL_areGroups_99 : decode cL_areGroups 99 = .ok (.invokevirtual 77, 3) := by decide +kernel
theorem dL_areGroups_102 : decode cL_areGroups 102 = .ok (.aload_n 0, 1) := by decide +kernel
theorem dL_areGroups_103 : decode cL_areGroups 103 = .ok (.iload 6, 2) := by decide +kernel
theorem dL_areGroups_105 : decode cL_areGroups 105 = .ok (.iconst 0, 1) := by decide +kernel
theorem dL_areGroups_106 : decode cL_areGroups 106 = .ok (.invokevirtual 77, 3) := by decide +kernel
theorem dL_areGroups_109 : decode cL_areGroups 109 = .ok (.if_icmp .gt 7, 3) := by decide +kernel
theorem dL_areGroups_112 : decode cL_areGroups 112 = .ok (.iconst 1, 1) := by decide +kernel
theorem dL_areGroups_113 : decode cL_areGroups 113 = .ok (.goto 4, 3) := by decide +kernel
theorem dL_areGroups_116 : decode cL_areGroups 116 = .ok (.iconst 0, 1) := by decide +kernel
theorem dL_areGroups_117 : decode cL_areGroups 117 = .ok (.istore_n 3, 1) := by decide +kernel
theorem dL_areGroups_118 : decode cL_areGroups 118 = .ok (.iconst 0, 1) := by decide +kernel
theorem dL_areGroups_119 : decode cL_areGroups 119 = .ok (.istore 8, 2) := by decide +kernel
theorem dL_areGroups_121 : decode cL_areGroups 121 = .ok (.iload 8, 2) := by decide +kernel
theorem dL_areGroups_123 : decode cL_areGroups 123 = .ok (.iload 6, 2) := by decide +kernel
theorem dL_areGroups_125 : decode cL_areGroups 125 = .ok (.if_icmp .ge 35, 3) := by decide +kernel
theorem dL_areGroups_128 : decode cL_areGroups 128 = .ok (.iload_n 3, 1) := by decide +kernel
theorem dL_areGroups_129 : decode cL_areGroups 129 = .ok (.ifCond .eq 31, 3) := by decide +kernel
theorem dL_areGroups_132 : decode cL_areGroups 132 = .ok (.aload_n 0, 1) := by decide +kernel
theorem dL_areGroups_133 : decode cL_areGroups 133 = .ok (.aload_n 0, 1) := by decide +kernel
theorem dL_areGroups_134 : decode cL_areGroups 134 = .ok (.iload 8, 2) := by decide +kernel
theorem dL_areGroups_136 : decode cL_areGroups 136 = .ok (.invokevirtual 74, 3) := by decide +kernel
theorem dL_areGroups_139 : decode cL_areGroups 139 = .ok (.iload 7, 2) := by decide +kernel
theorem dL_areGroups_141 : decode cL_areGroups 141 = .ok (.invokevirtual 45, 3) := by decide +kernel
theorem dL_areGroups_144 : decode cL_areGroups 144 = .ok (.iload_n 2, 1) := by decide +kernel
theorem dL_areGroups_145 : decode cL_areGroups 145 = .ok (.if_icmp .le 7, 3) := by decide +kernel
theorem dL_areGroups_148 : decode cL_areGroups 148 = .ok (.iconst 1, 1) := by decide +kernel
theorem dL_areGroups_149 : decode cL_areGroups 149 = .ok (.goto 4, 3) := by decide +kernel
theorem dL_areGroups_152 : decode cL_areGroups 152 = .ok (.iconst 0, 1) := by decide +kernel
theorem dL_areGroups_153 : decode cL_areGroups 153 = .ok (.istore_n 3, 1) := by decide +kernel
theorem dL_areGroups_154 : decode cL_areGroups 154 = .ok (.iinc 8 1, 3) := by decide +kernel
theorem dL_areGroups_157 : decode cL_areGroups 157 = .ok (.goto (-36), 3) := by decide +kernel
theorem dL_areGroups_160 : decode cL_areGroups 160 = .ok (.iinc 6 1, 3) := by decide +kernel
theorem dL_areGroups_163 : decode cL_areGroups 163 = .ok (.goto (-132), 3) := by decide +kernel
theorem dL_areGroups_166 : decode cL_areGroups 166 = .ok (.iconst 0, 1) := by decide +kernel
theorem dL_areGroups_167 : decode cL_areGroups 167 = .ok (.istore 6, 2) := by decide +kernel
theorem dL_areGroups_169 : decode cL_areGroups 169 = .ok (.iload 6, 2) := by decide +kernel
theorem dL_areGroups_171 : decode cL_areGroups 171 = .ok (.iload_n 1, 1) := by decide +kernel
theorem dL_areGroups_172 : decode cL_areGroups 172 = .ok (.if_icmp .ge 59, 3) := by decide +kernel
theorem dL_areGroups_175 : decode cL_areGroups 175 = .ok (.iload_n 3, 1) := by decide +kernel
theorem dL_areGroups_176 : decode cL_areGroups 176 = .ok (.ifCond .eq 55, 3) := by decide +kernel
theorem dL_areGroups_179 : decode cL_areGroups 179 = .ok (.aload_n 0, 1) := by decide +kernel
theorem dL_areGroups_180 : decode cL_areGroups 180 = .ok (.iload 6, 2) := by decide +kernel
theorem dL_areGroups_182 : decode cL_areGroups 182 = .ok (.invokevirtual 80, 3) := by decide +kernel
theorem dL_areGroups_185 : decode cL_areGroups 185 = .ok (.ifCond .lt 38, 3) := by decide +kernel
theorem dL_areGroups_188 : decode cL_areGroups 188 = .ok (.aload_n 0, 1) := by decide +kernel
theorem dL_areGroups_189 : decode cL_areGroups 189 = .ok (.iload 6, 2) := by decide +kernel
theorem dL_areGroups_191 : decode cL_areGroups 191 = .ok (.invokevirtual 80, 3) := by decide +kernel
theorem dL_areGroups_194 : decode cL_areGroups 194 = .ok (.iload 4, 2) := by decide +kernel
theorem dL_areGroups_196 : decode cL_areGroups 196 = .ok (.if_icmp .ge 27, 3) := by decide +kernel
theorem dL_areGroups_199 : decode cL_areGroups 199 = .ok (.aload_n 0, 1) := by decide +kernel
theorem dL_areGroups_200 : decode cL_areGroups 200 = .ok (.aload_n 0, 1) := by decide +kernel
theorem dL_areGroups_201 : decode cL_areGroups 201 = .ok (.aload_n 0, 1) := by decide +kernel
theorem dL_areGroups_202 : decode cL_areGroups 202 = .ok (.iload 6, 2) := by decide +kernel
theorem dL_areGroups_204 : decode cL_areGroups 204 = .ok (.invokevirtual 80, 3) := by decide +kernel
theorem dL_areGroups_207 : decode cL_areGroups 207 = .ok (.invokevirtual 74, 3) := by decide +kernel
theorem dL_areGroups_210 : decode cL_areGroups 210 = .ok (.iload 6, 2) := by decide +kernel
theorem dL_areGroups_212 : decode cL_areGroups 212 = .ok (.invokevirtual 45, 3) := by decide +kernel
theorem dL_areGroups_215 : decode cL_areGroups 215 = .ok (.iload_n 2, 1) := by decide +kernel
theorem dL_areGroups_216 : decode cL_areGroups 216 = .ok (.if_icmp .gt 7, 3) := by decide +kernel
theorem dL_areGroups_219 : decode cL_areGroups 219 = .ok (.iconst 1, 1) := by decide +kernel
theorem dL_areGroups_220 : decode cL_areGroups 220 = .ok (.goto 4, 3) := by decide +kernel
theorem dL_areGroups_223 : decode cL_areGroups 223 = .ok (.iconst 0, 1) := by decide +kernel
theorem dL_areGroups_224 : decode cL_areGroups 224 = .ok (.istore_n 3, 1) := by decide +kernel
theorem dL_areGroups_225 : decode cL_areGroups 225 = .ok (.iinc 6 1, 3) := by decide +kernel
theorem dL_areGroups_228 : decode cL_areGroups 228 = .ok (.goto (-59), 3) := by decide +kernel
theorem dL_areGroups_231 : decode cL_areGroups 231 = .ok (.iload_n 3, 1) := by decide +kernel
theorem dL_areGroups_232 : decode cL_areGroups 232 = .ok (.ifCond .eq 36, 3) := by decide +kernel
theorem dL_areGroups_235 : decode cL_areGroups 235 = .ok (.iload 5, 2) := by decide +kernel
theorem dL_areGroups_237 : decode cL_areGroups 237 = .ok (.iload_n 1, 1) := by decide +kernel
theorem dL_areGroups_238 : decode cL_areGroups 238 = .ok (.if_icmp .ne 30, 3) := by decide +kernel
theorem dL_areGroups_241 : decode cL_areGroups 241 = .ok (.aload_n 0, 1) := by decide +kernel
theorem dL_areGroups_242 : decode cL_areGroups 242 = .ok (.iload 4, 2) := by decide +kernel
theorem dL_areGroups_244 : decode cL_areGroups 244 = .ok (.invokevirtual 74, 3) := by decide +kernel
theorem dL_areGroups_247 : decode cL_areGroups 247 = .ok (.bipush (-4), 2) := by decide +kernel
theorem dL_areGroups_249 : decode cL_areGroups 249 = .ok (.if_icmp .ne 19, 3) := by decide +kernel
theorem dL_areGroups_252 : decode cL_areGroups 252 = .ok (.aload_n 0, 1) := by decide +kernel
theorem dL_areGroups_253 : decode cL_areGroups 253 = .ok (.iload 4, 2) := by decide +kernel
theorem dL_areGroups_255 : decode cL_areGroups 255 = .ok (.iconst 0, 1) := by decide +kernel
theorem dL_areGroups_256 : decode cL_areGroups 256 = .ok (.invokevirtual 77, 3) := by decide +kernel
theorem dL_areGroups_259 : decode cL_areGroups 259 = .ok (.bipush (-4), 2) := by decide +kernel
theorem dL_areGroups_261 : decode cL_areGroups 261 = .ok (.if_icmp .ne 7, 3) := by decide +kernel
theorem dL_areGroups_264 : decode cL_areGroups 264 = .ok (.iconst 1, 1) := by decide +kernel
theorem dL_areGroups_265 : decode cL_areGroups 265 = .ok (.goto 4, 3) := by decide +kernel
theorem dL_areGroups_268 : decode cL_areGroups 268 = .ok (.iconst 0, 1) := by decide +kernel
theorem dL_areGroups_269 : decode cL_areGroups 269 = .ok (.ireturn, 1) := by decide +kernel
theorem dL_law_0 : decode cL_law 0 = .ok (.iconst 4, 1) := by decide +kernel
theorem dL_law_1 : decode cL_law 1 = .ok (.newarray .int, 2) := by decide +kernel
theorem dL_law_3 : decode cL_law 3 = .ok (.astore_n 1, 1) := by decide +kernel
theorem dL_law_4 : decode cL_law 4 = .ok (.aload_n 1, 1) := by decide +kernel
theorem dL_law_5 : decode cL_law 5 = .ok (.iconst 0, 1) := by decide +kernel
theorem dL_law_6 : decode cL_law 6 = .ok (.iconst 2, 1) := by decide +kernel
theorem dL_law_7 : decode cL_law 7 = .ok (.iastore, 1) := by decide +kernel
theorem dL_law_8 : decode cL_law 8 = .ok (.aload_n 1, 1) := by decide +kernel
theorem dL_law_9 : decode cL_law 9 = .ok (.iconst 1, 1) := by decide +kernel
theorem dL_law_10 : decode cL_law 10 = .ok (.iconst 3, 1) := by decide +kernel
theorem dL_law_11 : decode cL_law 11 = .ok (.iastore, 1) := by decide +kernel
theorem dL_law_12 : decode cL_law 12 = .ok (.aload_n 1, 1) := by decide +kernel
theorem dL_law_13 : decode cL_law 13 = .ok (.iconst 2, 1) := by decide +kernel
theorem dL_law_14 : decode cL_law 14 = .ok (.iconst 1, 1) := by decide +kernel
theorem dL_law_15 : decode cL_law 15 = .ok (.iastore, 1) := by decide +kernel
theorem dL_law_16 : decode cL_law 16 = .ok (.aload_n 1, 1) := by decide +kernel
theorem dL_law_17 : decode cL_law 17 = .ok (.iconst 3, 1) := by decide +kernel
theorem dL_law_18 : decode cL_law 18 = .ok (.iconst 2, 1) := by decide +kernel
theorem dL_law_19 : decode cL_law 19 = .ok (.iastore, 1) := by decide +kernel
theorem dL_law_20 : decode cL_law 20 = .ok (.new 10, 3) := by decide +kernel
theorem dL_law_23 : decode cL_law 23 = .ok (.dup, 1) := by decide +kernel
theorem dL_law_24 : decode cL_law 24 = .ok (.invokespecial 83, 3) := by decide +kernel
theorem dL_law_27 : decode cL_law 27 = .ok (.astore_n 2, 1) := by decide +kernel
theorem dL_law_28 : decode cL_law 28 = .ok (.aload_n 2, 1) := by decide +kernel
theorem dL_law_29 : decode cL_law 29 = .ok (.invokevirtual 68, 3) := by decide +kernel
theorem dL_law_32 : decode cL_law 32 = .ok (.bipush (-2), 2) := by decide +kernel
theorem dL_law_34 : decode cL_law 34 = .ok (.if_icmp .ne 31, 3) := by decide +kernel
theorem dL_law_37 : decode cL_law 37 = .ok (.aload_n 2, 1) := by decide +kernel
theorem dL_law_38 : decode cL_law 38 = .ok (.invokevirtual 19, 3) := by decide +kernel
theorem dL_law_41 : decode cL_law 41 = .ok (.ifCond .ne 24, 3) := by decide +kernel
theorem dL_law_44 : decode cL_law 44 = .ok (.aload_n 2, 1) := by decide +kernel
theorem dL_law_45 : decode cL_law 45 = .ok (.invokevirtual 71, 3) := by decide +kernel
theorem dL_law_48 : decode cL_law 48 = .ok (.ifCond .ne 17, 3) := by decide +kernel
theorem dL_law_51 : decode cL_law 51 = .ok (.aload_n 2, 1) := by decide +kernel
theorem dL_law_52 : decode cL_law 52 = .ok (.iconst 0, 1) := by decide +kernel
theorem dL_law_53 : decode cL_law 53 = .ok (.invokevirtual 48, 3) := by decide +kernel
theorem dL_law_56 : decode cL_law 56 = .ok (.bipush (-4), 2) := by decide +kernel
theorem dL_law_58 : decode cL_law 58 = .ok (.if_icmp .ne 7, 3) := by decide +kernel
theorem dL_law_61 : decode cL_law 61 = .ok (.iconst 1, 1) := by decide +kernel
theorem dL_law_62 : decode cL_law 62 = .ok (.goto 4, 3) := by decide +kernel
theorem dL_law_65 : decode cL_law 65 = .ok (.iconst 0, 1) := by decide +kernel
theorem dL_law_66 : decode cL_law 66 = .ok (.istore_n 3, 1) := by decide +kernel
theorem dL_law_67 : decode cL_law 67 = .ok (.iconst 0, 1) := by decide +kernel
theorem dL_law_68 : decode cL_law 68 = .ok (.istore 4, 2) := by decide +kernel
theorem dL_law_70 : decode cL_law 70 = .ok (.iload 4, 2) := by decide +kernel
theorem dL_law_72 : decode cL_law 72 = .ok (.bipush 14, 2) := by decide +kernel
theorem dL_law_74 : decode cL_law 74 = .ok (.if_icmp .ge 192, 3) := by decide +kernel
theorem dL_law_77 : decode cL_law 77 = .ok (.iload_n 3, 1) := by decide +kernel
theorem dL_law_78 : decode cL_law 78 = .ok (.ifCond .eq 188, 3) := by decide +kernel
theorem dL_law_81 : decode cL_law 81 = .ok (.aload_n 0, 1) := by decide +kernel
theorem dL_law_82 : decode cL_law 82 = .ok (.iload 4, 2) := by decide +kernel
theorem dL_law_84 : decode cL_law 84 = .ok (.invokestatic 84, 3) := by decide +kernel
theorem dL_law_87 : decode cL_law 87 = .ok (.istore 5, 2) := by decide +kernel
theorem dL_law_89 : decode cL_law 89 = .ok (.aload_n 2, 1) := by decide +kernel
theorem dL_law_90 : decode cL_law 90 = .ok (.invokevirtual 19, 3) := by decide +kernel
theorem dL_law_93 : decode cL_law 93 = .ok (.istore 6, 2) := by decide +kernel
theorem dL_law_95 : decode cL_law 95 = .ok (.iload 6, 2) := by decide +kernel
theorem dL_law_97 : decode cL_law 97 = .ok (.iconst 2, 1) := by decide +kernel
theorem dL_law_98 : decode cL_law 98 = .ok (.if_icmp .lt 17, 3) := by decide +kernel
theorem dL_law_101 : decode cL_law 101 = .ok (.iload 5, 2) := by decide +kernel
theorem dL_law_103 : decode cL_law 103 = .ok (.iconst 3, 1) := by decide +kernel
theorem dL_law_104 : decode cL_law 104 = .ok (.irem, 1) := by decide +kernel
theorem dL_law_105 : decode cL_law 105 = .ok (.ifCond .le 24, 3) := by decide +kernel
theorem dL_law_108 : decode cL_law 108 = .ok (.iload 6, 2) := by decide +kernel
theorem dL_law_110 : decode cL_law 110 = .ok (.bipush 6, 2) := by decide +kernel
theorem dL_law_112 : decode cL_law 112 = .ok (.if_icmp .ge 17, 3) := by decide +kernel
theorem dL_law_115 : decode cL_law 115 = .ok (.aload_n 2, 1) := by decide +kernel
theorem dL_law_116 : decode cL_law 116 = .ok (.iload 5, 2) := by decide +kernel
theorem dL_law_118 : decode cL_law 118 = .ok (.iconst 2, 1) := by decide +kernel
theorem dL_law_119 : decode cL_law 119 = .ok (.ishr, 1) := by decide +kernel
theorem dL_law_120 : decode cL_law 120 = .ok (.bipush 8, 2) := by decide +kernel
theorem dL_law_122 : decode cL_law 122 = .ok (.invokestatic 88, 3) := by decide +kernel
theorem dL_law_125 : decode cL_law 125 = .ok (.istore_n 3, 1) := by decide +kernel
theorem dL_law_126 : decode cL_law 126 = .ok (.goto 116, 3) := by decide +kernel
theorem dL_law_129 : decode cL_law 129 = .ok (.iload 5, 2) := by decide +kernel
theorem dL_law_131 : decode cL_law 131 = .ok (.iconst 2, 1) := by decide +kernel
theorem dL_law_132 : decode cL_law 132 = .ok (.irem, 1) := by decide +kernel
theorem dL_law_133 : decode cL_law 133 = .ok (.ifCond .ne 54, 3) := by decide +kernel
theorem dL_law_136 : decode cL_law 136 = .ok (.iload 5, 2) := by decide +kernel
theorem dL_law_138 : decode cL_law 138 = .ok (.iconst 3, 1) := by decide +kernel
theorem dL_law_139 : decode cL_law 139 = .ok (.ishr, 1) := by decide +kernel
theorem dL_law_140 : decode cL_law 140 = .ok (.iconst 4, 1) := by decide +kernel
theorem dL_law_141 : decode cL_law 141 = .ok (.irem, 1) := by decide +kernel
theorem dL_law_142 : decode cL_law 142 = .ok (.istore 7, 2) := by decide +kernel
theorem dL_law_144 : decode cL_law 144 = .ok (.aload_n 1, 1) := by decide +kernel
theorem dL_law_145 : decode cL_law 145 = .ok (.iload 7, 2) := by decide +kernel
theorem dL_law_147 : decode cL_law 147 = .ok (.iaload, 1) := by decide +kernel
theorem dL_law_148 : decode cL_law 148 = .ok (.istore 8, 2) := by decide +kernel
theorem dL_law_150 : decode cL_law 150 = .ok (.aload_n 1, 1) := by decide +kernel
theorem dL_law_151 : decode cL_law 151 = .ok (.iload 7, 2) := by decide +kernel
theorem dL_law_153 : decode cL_law 153 = .ok (.iconst 1, 1) := by decide +kernel
theorem dL_law_154 : decode cL_law 154 = .ok (.iload 5, 2) := by decide +kernel
theorem dL_law_156 : decode cL_law 156 = .ok (.iconst 5, 1) := by decide +kernel
theorem dL_law_157 : decode cL_law 157 = .ok (.ishr, 1) := by decide +kernel
theorem dL_law_158 : decode cL_law 158 = .ok (.bipush 9, 2) := by decide +kernel
theorem dL_law_160 : decode cL_law 160 = .ok (.irem, 1) := by decide +kernel
theorem dL_law_161 : decode cL_law 161 = .ok (.iadd, 1) := by decide +kernel
theorem dL_law_162 : decode cL_law 162 = .ok (.iastore, 1) := by decide +kernel
theorem dL_law_163 : decode cL_law 163 = .ok (.aload_n 2, 1) := by decide +kernel
theorem dL_law_164 : decode cL_law 164 = .ok (.iload 7, 2) := by decide +kernel
theorem dL_law_166 : decode cL_law 166 = .ok (.aload_n 1, 1) := by decide +kernel
theorem dL_law_167 : decode cL_law 167 = .ok (.iload 7, 2) := by decide +kernel
theorem dL_law_169 : decode cL_law 169 = .ok (.iaload, 1) := by decide +kernel
theorem dL_law_170 : decode cL_law 170 = .ok (.invokevirtual 92, 3) := by decide +kernel
theorem dL_law_173 : decode cL_law 173 = .ok (.iload 8, 2) := by decide +kernel
theorem dL_law_175 : decode cL_law 175 = .ok (.if_icmp .ne 7, 3) := by decide +kernel
theorem dL_law_178 : decode cL_law 178 = .ok (.iconst 1, 1) := by decide +kernel
theorem dL_law_179 : decode cL_law 179 = .ok (.goto 4, 3) := by decide +kernel
theorem dL_law_182 : decode cL_law 182 = .ok (.iconst 0, 1) := by decide +kernel
theorem dL_law_183 : decode cL_law 183 = .ok (.istore_n 3, 1) := by decide +kernel
theorem dL_law_184 : decode cL_law 184 = .ok (.goto 58, 3) := by decide +kernel
theorem dL_law_187 : decode cL_law 187 = .ok (.iload 5, 2) := by decide +kernel
theorem dL_law_189 : decode cL_law 189 = .ok (.iconst 3, 1) := by decide +kernel
theorem dL_law_190 : decode cL_law 190 = .ok (.irem, 1) := by decide +kernel
theorem dL_law_191 : decode cL_law 191 = .ok (.iconst 1, 1) := by decide +kernel
theorem dL_law_192 : decode cL_law 192 = .ok (.if_icmp .ne 26, 3) := by decide +kernel
theorem dL_law_195 : decode cL_law 195 = .ok (.aload_n 2, 1) := by decide +kernel
theorem dL_law_196 : decode cL_law 196 = .ok (.iload 5, 2) := by decide +kernel
theorem dL_law_198 : decode cL_law 198 = .ok (.iconst 4, 1) := by decide +kernel
theorem dL_law_199 : decode cL_law 199 = .ok (.ishr, 1) := by decide +kernel
theorem dL_law_200 : decode cL_law 200 = .ok (.bipush 21, 2) := by decide +kernel
theorem dL_law_202 : decode cL_law 202 = .ok (.irem, 1) := by decide +kernel
theorem dL_law_203 : decode cL_law 203 = .ok (.invokevirtual 65, 3) := by decide +kernel
theorem dL_law_206 : decode cL_law 206 = .ok (.ifCond .lt 7, 3) := by decide +kernel
theorem dL_law_209 : decode cL_law 209 = .ok (.iconst 1, 1) := by decide +kernel
theorem dL_law_210 : decode cL_law 210 = .ok (.goto 4, 3) := by decide +kernel
theorem dL_law_213 : decode cL_law 213 = .ok (.iconst 0, 1) := by decide +kernel
theorem dL_law_214 : decode cL_law 214 = .ok (.istore_n 3, 1) := by decide +kernel
theorem dL_law_215 : decode cL_law 215 = .ok (.goto 27, 3) := by decide +kernel
theorem dL_law_218 : decode cL_law 218 = .ok (.aload_n 2, 1) := by decide +kernel
theorem dL_law_219 : decode cL_law 219 = .ok (.iload 5, 2) := by decide +kernel
theorem dL_law_221 : decode cL_law 221 = .ok (.iconst 4, 1) := by decide +kernel
theorem dL_law_222 : decode cL_law 222 = .ok (.ishr, 1) := by decide +kernel
theorem dL_law_223 : decode cL_law 223 = .ok (.iload 6, 2) := by decide +kernel
theorem dL_law_225 : decode cL_law 225 = .ok (.irem, 1) := by decide +kernel
theorem dL_law_226 : decode cL_law 226 = .ok (.invokevirtual 95, 3) := by decide +kernel
theorem dL_law_229 : decode cL_law 229 = .ok (.iload 6, 2) := by decide +kernel
theorem dL_law_231 : decode cL_law 231 = .ok (.iconst 1, 1) := by decide +kernel
theorem dL_law_232 : decode cL_law 232 = .ok (.isub, 1) := by decide +kernel
theorem dL_law_233 : decode cL_law 233 = .ok (.if_icmp .ne 7, 3) := by decide +kernel
theorem dL_law_236 : decode cL_law 236 = .ok (.iconst 1, 1) := by decide +kernel
theorem dL_law_237 : decode cL_law 237 = .ok (.goto 4, 3) := by decide +kernel
theorem dL_law_240 : decode cL_law 240 = .ok (.iconst 0, 1) := by decide +kernel
theorem dL_law_241 : decode cL_law 241 = .ok (.istore_n 3, 1) := by decide +kernel
theorem dL_law_242 : decode cL_law 242 = .ok (.iload_n 3, 1) := by decide +kernel
theorem dL_law_243 : decode cL_law 243 = .ok (.ifCond .eq 15, 3) := by decide +kernel
theorem dL_law_246 : decode cL_law 246 = .ok (.aload_n 2, 1) := by decide +kernel
theorem dL_law_247 : decode cL_law 247 = .ok (.aload_n 1, 1) := by decide +kernel
theorem dL_law_248 : decode cL_law 248 = .ok (.invokestatic 98, 3) := by decide +kernel
theorem dL_law_251 : decode cL_law 251 = .ok (.ifCond .eq 7, 3) := by decide +kernel
theorem dL_law_254 : decode cL_law 254 = .ok (.iconst 1, 1) := by decide +kernel
theorem dL_law_255 : decode cL_law 255 = .ok (.goto 4, 3) := by decide +kernel
theorem dL_law_258 : decode cL_law 258 = .ok (.iconst 0, 1) := by decide +kernel
theorem dL_law_259 : decode cL_law 259 = .ok (.istore_n 3, 1) := by decide +kernel
theorem dL_law_260 : decode cL_law 260 = .ok (.iinc 4 1, 3) := by decide +kernel
theorem dL_law_263 : decode cL_law 263 = .ok (.goto (-193), 3) := by decide +kernel
theorem dL_law_266 : decode cL_law 266 = .ok (.iload_n 3, 1) := by decide +kernel
theorem dL_law_267 : decode cL_law 267 = .ok (.ifCond .eq 40, 3) := by decide +kernel
theorem dL_law_270 : decode cL_law 270 = .ok (.aload_n 2, 1) := by decide +kernel
theorem dL_law_271 : decode cL_law 271 = .ok (.iconst 0, 1) := by decide +kernel
theorem dL_law_272 : decode cL_law 272 = .ok (.bipush 8, 2) := by decide +kernel
theorem dL_law_274 : decode cL_law 274 = .ok (.invokevirtual 36, 3) := by decide +kernel
theorem dL_law_277 : decode cL_law 277 = .ok (.bipush (-4), 2) := by decide +kernel
theorem dL_law_279 : decode cL_law 279 = .ok (.if_icmp .ne 28, 3) := by decide +kernel
theorem dL_law_282 : decode cL_law 282 = .ok (.aload_n 2, 1) := by decide +kernel
theorem dL_law_283 : decode cL_law 283 = .ok (.iconst 0, 1) := by decide +kernel
theorem dL_law_284 : decode cL_law 284 = .ok (.bipush 12, 2) := by decide +kernel
theorem dL_law_286 : decode cL_law 286 = .ok (.invokevirtual 45, 3) := by decide +kernel
theorem dL_law_289 : decode cL_law 289 = .ok (.iconst (-1), 1) := by decide +kernel
theorem dL_law_290 : decode cL_law 290 = .ok (.if_icmp .ne 17, 3) := by decide +kernel
theorem dL_law_293 : decode cL_law 293 = .ok (.aload_n 2, 1) := by decide +kernel
theorem dL_law_294 : decode cL_law 294 = .ok (.bipush 65, 2) := by decide +kernel
theorem dL_law_296 : decode cL_law 296 = .ok (.invokevirtual 15, 3) := by decide +kernel
theorem dL_law_299 : decode cL_law 299 = .ok (.iconst (-1), 1) := by decide +kernel
theorem dL_law_300 : decode cL_law 300 = .ok (.if_icmp .ne 7, 3) := by decide +kernel
theorem dL_law_303 : decode cL_law 303 = .ok (.iconst 1, 1) := by decide +kernel
theorem dL_law_304 : decode cL_law 304 = .ok (.goto 4, 3) := by decide +kernel
theorem dL_law_307 : decode cL_law 307 = .ok (.iconst 0, 1) := by decide +kernel
theorem dL_law_308 : decode cL_law 308 = .ok (.ireturn, 1) := by decide +kernel
