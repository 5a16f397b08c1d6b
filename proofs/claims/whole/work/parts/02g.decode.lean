theorem dX12_oneTest_131 : decode cX12_oneTest 131 = .ok (.aload_n 0, 1) := by decide +kernel
theorem dX12_oneTest_132 : decode cX12_oneTest 132 = .ok (.getfield 135, 3) := by decide +kernel
theorem dX12_oneTest_135 : decode cX12_oneTest 135 = .ok (.sipush 162, 3) := by decide +kernel
theorem dX12_oneTest_138 : decode cX12_oneTest 138 = .ok (.if_icmp .ne 8, 3) := by decide +kernel
theorem dX12_oneTest_141 : decode cX12_oneTest 141 = .ok (.bipush 19, 2) := by decide +kernel
theorem dX12_oneTest_143 : decode cX12_oneTest 143 = .ok (.goto 4, 3) := by decide +kernel
theorem dX12_oneTest_146 : decode cX12_oneTest 146 = .ok (.iconst (-1), 1) := by decide +kernel
theorem dX12_oneTest_147 : decode cX12_oneTest 147 = .ok (.istore_n 1, 1) := by decide +kernel
theorem dX12_oneTest_148 : decode cX12_oneTest 148 = .ok (.iload_n 1, 1) := by decide +kernel
theorem dX12_oneTest_149 : decode cX12_oneTest 149 = .ok (.iconst (-1), 1) := by decide +kernel
theorem dX12_oneTest_150 : decode cX12_oneTest 150 = .ok (.if_icmp .ne 9, 3) := by decide +kernel
theorem dX12_oneTest_153 : decode cX12_oneTest 153 = .ok (.aload_n 0, 1) := by decide +kernel
theorem dX12_oneTest_154 : decode cX12_oneTest 154 = .ok (.iconst 1, 1) := by decide +kernel
theorem dX12_oneTest_155 : decode cX12_oneTest 155 = .ok (.invokevirtual 157, 3) := by decide +kernel
theorem dX12_oneTest_158 : decode cX12_oneTest 158 = .ok (.ireturn, 1) := by decide +kernel
theorem dX12_oneTest_159 : decode cX12_oneTest 159 = .ok (.aload_n 0, 1) := by decide +kernel
theorem dX12_oneTest_160 : decode cX12_oneTest 160 = .ok (.invokevirtual 160, 3) := by decide +kernel
theorem dX12_oneTest_163 : decode cX12_oneTest 163 = .ok (.aload_n 0, 1) := by decide +kernel
theorem dX12_oneTest_164 : decode cX12_oneTest 164 = .ok (.invokevirtual 194, 3) := by decide +kernel
theorem dX12_oneTest_167 : decode cX12_oneTest 167 = .ok (.ifCond .ne 5, 3) := by decide +kernel
theorem dX12_oneTest_170 : decode cX12_oneTest 170 = .ok (.iconst 0, 1) := by decide +kernel
theorem dX12_oneTest_171 : decode cX12_oneTest 171 = .ok (.ireturn, 1) := by decide +kernel
theorem dX12_oneTest_172 : decode cX12_oneTest 172 = .ok (.aload_n 0, 1) := by decide +kernel
theorem dX12_oneTest_173 : decode cX12_oneTest 173 = .ok (.iload_n 1, 1) := by decide +kernel
theorem dX12_oneTest_174 : decode cX12_oneTest 174 = .ok (.iconst 0, 1) := by decide +kernel
theorem dX12_oneTest_175 : decode cX12_oneTest 175 = .ok (.invokevirtual 173, 3) := by decide +kernel
theorem dX12_oneTest_178 : decode cX12_oneTest 178 = .ok (.iconst 1, 1) := by decide +kernel
theorem dX12_oneTest_179 : decode cX12_oneTest 179 = .ok (.ireturn, 1) := by decide +kernel
theorem dX12_aLine_0 : decode cX12_aLine 0 = .ok (.aload_n 0, 1) := by decide +kernel
theorem dX12_aLine_1 : decode cX12_aLine 1 = .ok (.getfield 135, 3) := by decide +kernel
theorem dX12_aLine_4 : decode cX12_aLine 4 = .ok (.bipush 20, 2) := by decide +kernel
theorem dX12_aLine_6 : decode cX12_aLine 6 = .ok (.if_icmp .eq 9, 3) := by decide +kernel
theorem dX12_aLine_9 : decode cX12_aLine 9 = .ok (.aload_n 0, 1) := by decide +kernel
theorem dX12_aLine_10 : decode cX12_aLine 10 = .ok (.iconst 1, 1) := by decide +kernel
theorem dX12_aLine_11 : decode cX12_aLine 11 = .ok (.invokevirtual 157, 3) := by decide +kernel
theorem dX12_aLine_14 : decode cX12_aLine 14 = .ok (.ireturn, 1) := by decide +kernel
theorem dX12_aLine_15 : decode cX12_aLine 15 = .ok (.aload_n 0, 1) := by decide +kernel
theorem dX12_aLine_16 : decode cX12_aLine 16 = .ok (.getfield 197, 3) := by decide +kernel
theorem dX12_aLine_19 : decode cX12_aLine 19 = .ok (.bipush 16, 2) := by decide +kernel
theorem dX12_aLine_21 : decode cX12_aLine 21 = .ok (.if_icmp .ne 9, 3) := by decide +kernel
theorem dX12_aLine_24 : decode cX12_aLine 24 = .ok (.aload_n 0, 1) := by decide +kernel
theorem dX12_aLine_25 : decode cX12_aLine 25 = .ok (.iconst 3, 1) := by decide +kernel
theorem dX12_aLine_26 : decode cX12_aLine 26 = .ok (.invokevirtual 157, 3) := by decide +kernel
theorem dX12_aLine_29 : decode cX12_aLine 29 = .ok (.ireturn, 1) := by decide +kernel
theorem dX12_aLine_30 : decode cX12_aLine 30 = .ok (.aload_n 0, 1) := by decide +kernel
theorem dX12_aLine_31 : decode cX12_aLine 31 = .ok (.iconst 0, 1) := by decide +kernel
theorem dX12_aLine_32 : decode cX12_aLine 32 = .ok (.putfield 166, 3) := by decide +kernel
theorem dX12_aLine_35 : decode cX12_aLine 35 = .ok (.aload_n 0, 1) := by decide +kernel
theorem dX12_aLine_36 : decode cX12_aLine 36 = .ok (.invokevirtual 160, 3) := by decide +kernel
theorem dX12_aLine_39 : decode cX12_aLine 39 = .ok (.aload_n 0, 1) := by decide +kernel
theorem dX12_aLine_40 : decode cX12_aLine 40 = .ok (.getfield 19, 3) := by decide +kernel
theorem dX12_aLine_43 : decode cX12_aLine 43 = .ok (.iconst 3, 1) := by decide +kernel
theorem dX12_aLine_44 : decode cX12_aLine 44 = .ok (.aload_n 0, 1) := by decide +kernel
theorem dX12_aLine_45 : decode cX12_aLine 45 = .ok (.getfield 197, 3) := by decide +kernel
theorem dX12_aLine_48 : decode cX12_aLine 48 = .ok (.imul, 1) := by decide +kernel
theorem dX12_aLine_49 : decode cX12_aLine 49 = .ok (.aload_n 0, 1) := by decide +kernel
theorem dX12_aLine_50 : decode cX12_aLine 50 = .ok (.getfield 163, 3) := by decide +kernel
theorem dX12_aLine_53 : decode cX12_aLine 53 = .ok (.iastore, 1) := by decide +kernel
theorem dX12_aLine_54 : decode cX12_aLine 54 = .ok (.aload_n 0, 1) := by decide +kernel
theorem dX12_aLine_55 : decode cX12_aLine 55 = .ok (.invokevirtual 194, 3) := by decide +kernel
theorem dX12_aLine_58 : decode cX12_aLine 58 = .ok (.ifCond .ne 5, 3) := by decide +kernel
theorem dX12_aLine_61 : decode cX12_aLine 61 = .ok (.iconst 0, 1) := by decide +kernel
theorem dX12_aLine_62 : decode cX12_aLine 62 = .ok (.ireturn, 1) := by decide +kernel
theorem dX12_aLine_63 : decode cX12_aLine 63 = .ok (.aload_n 0, 1) := by decide +kernel
theorem dX12_aLine_64 : decode cX12_aLine 64 = .ok (.getfield 19, 3) := by decide +kernel
theorem dX12_aLine_67 : decode cX12_aLine 67 = .ok (.iconst 3, 1) := by decide +kernel
theorem dX12_aLine_68 : decode cX12_aLine 68 = .ok (.aload_n 0, 1) := by decide +kernel
theorem dX12_aLine_69 : decode cX12_aLine 69 = .ok (.getfield 197, 3) := by decide +kernel
theorem dX12_aLine_72 : decode cX12_aLine 72 = .ok (.imul, 1) := by decide +kernel
theorem dX12_aLine_73 : decode cX12_aLine 73 = .ok (.iconst 1, 1) := by decide +kernel
theorem dX12_aLine_74 : decode cX12_aLine 74 = .ok (.iadd, 1) := by decide +kernel
theorem dX12_aLine_75 : decode cX12_aLine 75 = .ok (.aload_n 0, 1) := by decide +kernel
theorem dX12_aLine_76 : decode cX12_aLine 76 = .ok (.getfield 163, 3) := by decide +kernel
theorem dX12_aLine_79 : decode cX12_aLine 79 = .ok (.iastore, 1) := by decide +kernel
theorem dX12_aLine_80 : decode cX12_aLine 80 = .ok (.aload_n 0, 1) := by decide +kernel
theorem dX12_aLine_81 : decode cX12_aLine 81 = .ok (.getfield 135, 3) := by decide +kernel
theorem dX12_aLine_84 : decode cX12_aLine 84 = .ok (.iconst 3, 1) := by decide +kernel
theorem dX12_aLine_85 : decode cX12_aLine 85 = .ok (.if_icmp .ne 16, 3) := by decide +kernel
theorem dX12_aLine_88 : decode cX12_aLine 88 = .ok (.aload_n 0, 1) := by decide +kernel
theorem dX12_aLine_89 : decode cX12_aLine 89 = .ok (.invokevirtual 160, 3) := by decide +kernel
theorem dX12_aLine_92 : decode cX12_aLine 92 = .ok (.aload_n 0, 1) := by decide +kernel
theorem dX12_aLine_93 : decode cX12_aLine 93 = .ok (.invokevirtual 189, 3) := by decide +kernel
theorem dX12_aLine_96 : decode cX12_aLine 96 = .ok (.ifCond .ne 5, 3) := by decide +kernel
theorem dX12_aLine_99 : decode cX12_aLine 99 = .ok (.iconst 0, 1) := by decide +kernel
theorem dX12_aLine_100 : decode cX12_aLine 100 = .ok (.ireturn, 1) := by decide +kernel
theorem dX12_aLine_101 : decode cX12_aLine 101 = .ok (.aload_n 0, 1) := by decide +kernel
theorem dX12_aLine_102 : decode cX12_aLine 102 = .ok (.getfield 19, 3) := by decide +kernel
theorem dX12_aLine_105 : decode cX12_aLine 105 = .ok (.iconst 3, 1) := by decide +kernel
theorem dX12_aLine_106 : decode cX12_aLine 106 = .ok (.aload_n 0, 1) := by decide +kernel
theorem dX12_aLine_107 : decode cX12_aLine 107 = .ok (.getfield 197, 3) := by decide +kernel
theorem dX12_aLine_110 : decode cX12_aLine 110 = .ok (.imul, 1) := by decide +kernel
theorem dX12_aLine_111 : decode cX12_aLine 111 = .ok (.iconst 2, 1) := by decide +kernel
theorem dX12_aLine_112 : decode cX12_aLine 112 = .ok (.iadd, 1) := by decide +kernel
theorem dX12_aLine_113 : decode cX12_aLine 113 = .ok (.aload_n 0, 1) := by decide +kernel
theorem dX12_aLine_114 : decode cX12_aLine 114 = .ok (.getfield 163, 3) := by decide +kernel
theorem dX12_aLine_117 : decode cX12_aLine 117 = .ok (.iastore, 1) := by decide +kernel
theorem dX12_aLine_118 : decode cX12_aLine 118 = .ok (.aload_n 0, 1) := by decide +kernel
theorem dX12_aLine_119 : decode cX12_aLine 119 = .ok (.sipush 159, 3) := by decide +kernel
theorem dX12_aLine_122 : decode cX12_aLine 122 = .ok (.invokevirtual 192, 3) := by decide +kernel
theorem dX12_aLine_125 : decode cX12_aLine 125 = .ok (.ireturn, 1) := by decide +kernel
theorem dX12_text_0 : decode cX12_text 0 = .ok (.aload_n 0, 1) := by decide +kernel
theorem dX12_text_1 : decode cX12_text 1 = .ok (.iconst 0, 1) := by decide +kernel
theorem dX12_text_2 : decode cX12_text 2 = .ok (.putfield 151, 3) := by decide +kernel
theorem dX12_text_5 : decode cX12_text 5 = .ok (.aload_n 0, 1) := by decide +kernel
theorem dX12_text_6 : decode cX12_text 6 = .ok (.iconst 0, 1) := by decide +kernel
theorem dX12_text_7 : decode cX12_text 7 = .ok (.putfield 78, 3) := by decide +kernel
theorem dX12_text_10 : decode cX12_text 10 = .ok (.aload_n 0, 1) := by decide +kernel
theorem dX12_text_11 : decode cX12_text 11 = .ok (.iconst 0, 1) := by decide +kernel
theorem dX12_text_12 : decode cX12_text 12 = .ok (.putfield 197, 3) := by decide +kernel
theorem dX12_text_15 : decode cX12_text 15 = .ok (.aload_n 0, 1) := by decide +kernel
theorem dX12_text_16 : decode cX12_text 16 = .ok (.iconst 0, 1) := by decide +kernel
theorem dX12_text_17 : decode cX12_text 17 = .ok (.putfield 163, 3) := by decide +kernel
theorem dX12_text_20 : decode cX12_text 20 = .ok (.aload_n 0, 1) := by decide +kernel
theorem dX12_text_21 : decode cX12_text 21 = .ok (.invokevirtual 160, 3) := by decide +kernel
theorem dX12_text_24 : decode cX12_text 24 = .ok (.iconst 1, 1) := by decide +kernel
theorem dX12_text_25 : decode cX12_text 25 = .ok (.istore_n 1, 1) := by decide +kernel
theorem dX12_text_26 : decode cX12_text 26 = .ok (.iload_n 1, 1) := by decide +kernel
theorem dX12_text_27 : decode cX12_text 27 = .ok (.ifCond .eq 36, 3) := by decide +kernel
theorem dX12_text_30 : decode cX12_text 30 = .ok (.aload_n 0, 1) := by decide +kernel
theorem dX12_text_31 : decode cX12_text 31 = .ok (.getfield 135, 3) := by decide +kernel
theorem dX12_text_34 : decode cX12_text 34 = .ok (.ifCond .eq 29, 3) := by decide +kernel
theorem dX12_text_37 : decode cX12_text 37 = .ok (.aload_n 0, 1) := by decide +kernel
theorem dX12_text_38 : decode cX12_text 38 = .ok (.invokevirtual 200, 3) := by decide +kernel
theorem dX12_text_41 : decode cX12_text 41 = .ok (.istore_n 1, 1) := by decide +kernel
theorem dX12_text_42 : decode cX12_text 42 = .ok (.aload_n 0, 1) := by decide +kernel
theorem dX12_text_43 : decode cX12_text 43 = .ok (.dup, 1) := by decide +kernel
theorem dX12_text_44 : decode cX12_text 44 = .ok (.getfield 197, 3) := by decide +kernel
theorem dX12_text_47 : decode cX12_text 47 = .ok (.iload_n 1, 1) := by decide +kernel
theorem dX12_text_48 : decode cX12_text 48 = .ok (.ifCond .eq 7, 3) := by decide +kernel
theorem dX12_text_51 : decode cX12_text 51 = .ok (.iconst 1, 1) := by decide +kernel
theorem dX12_text_52 : decode cX12_text 52 = .ok (.goto 4, 3) := by decide +kernel
theorem dX12_text_55 : decode cX12_text 55 = .ok (.iconst 0, 1) := by decide +kernel
theorem dX12_text_56 : decode cX12_text 56 = .ok (.iadd, 1) := by decide +kernel
theorem dX12_text_57 : decode cX12_text 57 = .ok (.putfield 197, 3) := by decide +kernel
theorem dX12_text_60 : decode cX12_text 60 = .ok (.goto (-34), 3) := by decide +kernel
theorem dX12_text_63 : decode cX12_text 63 = .ok (.aload_n 0, 1) := by decide +kernel
theorem dX12_text_64 : decode cX12_text 64 = .ok (.iconst 0, 1) := by decide +kernel
theorem dX12_text_65 : decode cX12_text 65 = .ok (.putfield 75, 3) := by decide +kernel
theorem dX12_text_68 : decode cX12_text 68 = .ok (.aload_n 0, 1) := by decide +kernel
theorem dX12_text_69 : decode cX12_text 69 = .ok (.aload_n 0, 1) := by decide +kernel
theorem dX12_text_70 : decode cX12_text 70 = .ok (.getfield 151, 3) := by decide +kernel
theorem dX12_text_73 : decode cX12_text 73 = .ok (.putfield 203, 3) := by decide +kernel
theorem dX12_text_76 : decode cX12_text 76 = .ok (.aload_n 0, 1) := by decide +kernel
theorem dX12_text_77 : decode cX12_text 77 = .ok (.iload_n 1, 1) := by decide +kernel
theorem dX12_text_78 : decode cX12_text 78 = .ok (.ifCond .eq 7, 3) := by decide +kernel
theorem dX12_text_81 : decode cX12_text 81 = .ok (.iconst (-1), 1) := by decide +kernel
theorem dX12_text_82 : decode cX12_text 82 = .ok (.goto 7, 3) := by decide +kernel
theorem dX12_text_85 : decode cX12_text 85 = .ok (.aload_n 0, 1) := by decide +kernel
theorem dX12_text_86 : decode cX12_text 86 = .ok (.getfield 154, 3) := by decide +kernel
theorem dX12_text_89 : decode cX12_text 89 = .ok (.putfield 34, 3) := by decide +kernel
theorem dX12_text_92 : decode cX12_text 92 = .ok (.iload_n 1, 1) := by decide +kernel
theorem dX12_text_93 : decode cX12_text 93 = .ok (.ifCond .ne 5, 3) := by decide +kernel
theorem dX12_text_96 : decode cX12_text 96 = .ok (.iconst (-1), 1) := by decide +kernel
theorem dX12_text_97 : decode cX12_text 97 = .ok (.ireturn, 1) := by decide +kernel
theorem dX12_text_98 : decode cX12_text 98 = .ok (.aload_n 0, 1) := by decide +kernel
theorem dX12_text_99 : decode cX12_text 99 = .ok (.getfield 7, 3) := by decide +kernel
theorem dX12_text_102 : decode cX12_text 102 = .ok (.sipush 590, 3) := by decide +kernel
theorem dX12_text_105 : decode cX12_text 105 = .ok (.aload_n 0, 1) := by decide +kernel
theorem dX12_text_106 : decode cX12_text 106 = .ok (.getfield 197, 3) := by decide +kernel
theorem dX12_text_109 : decode cX12_text 109 = .ok (.iastore, 1) := by decide +kernel
theorem dX12_text_110 : decode cX12_text 110 = .ok (.iconst 0, 1) := by decide +kernel
theorem dX12_text_111 : decode cX12_text 111 = .ok (.istore_n 2, 1) := by decide +kernel
theorem dX12_text_112 : decode cX12_text 112 = .ok (.iload_n 2, 1) := by decide +kernel
theorem dX12_text_113 : decode cX12_text 113 = .ok (.aload_n 0, 1) := by decide +kernel
theorem dX12_text_114 : decode cX12_text 114 = .ok (.getfield 197, 3) := by decide +kernel
theorem dX12_text_117 : decode cX12_text 117 = .ok (.if_icmp .ge 67, 3) := by decide +kernel
theorem dX12_text_120 : decode cX12_text 120 = .ok (.aload_n 0, 1) := by decide +kernel
theorem dX12_text_121 : decode cX12_text 121 = .ok (.getfield 7, 3) := by decide +kernel
theorem dX12_text_124 : decode cX12_text 124 = .ok (.sipush 600, 3) := by decide +kernel
theorem dX12_text_127 : decode cX12_text 127 = .ok (.iload_n 2, 1) := by decide +kernel
theorem dX12_text_128 : decode cX12_text 128 = .ok (.iadd, 1) := by decide +kernel
theorem dX12_text_129 : decode cX12_text 129 = .ok (.aload_n 0, 1) := by decide +kernel
theorem dX12_text_130 : decode cX12_text 130 = .ok (.getfield 19, 3) := by decide +kernel
theorem dX12_text_133 : decode cX12_text 133 = .ok (.iconst 3, 1) := by decide +kernel
theorem dX12_text_134 : decode cX12_text 134 = .ok (.iload_n 2, 1) := by decide +kernel
theorem dX12_text_135 : decode cX12_text 135 = .ok (.imul, 1) := by decide +kernel
theorem dX12_text_136 : decode cX12_text 136 = .ok (.iaload, 1) := by decide +kernel
theorem dX12_text_137 : decode cX12_text 137 = .ok (.iastore, 1) := by decide +kernel
theorem dX12_text_138 : decode cX12_text 138 = .ok (.aload_n 0, 1) := by decide +kernel
theorem dX12_text_139 : decode cX12_text 139 = .ok (.getfield 7, 3) := by decide +kernel
theorem dX12_text_142 : decode cX12_text 142 = .ok (.sipush 620, 3) := by decide +kernel
theorem dX12_text_145 : decode cX12_text 145 = .ok (.iload_n 2, 1) := by decide +kernel
theorem dX12_text_146 : decode cX12_text 146 = .ok (.iadd, 1) := by decide +kernel
theorem dX12_text_147 : decode cX12_text 147 = .ok (.aload_n 0, 1) := by decide +kernel
theorem dX12_text_148 : decode cX12_text 148 = .ok (.getfield 19, 3) := by decide +kernel
theorem dX12_text_151 : decode cX12_text 151 = .ok (.iconst 3, 1) := by decide +kernel
theorem dX12_text_152 : decode cX12_text 152 = .ok (.iload_n 2, 1) := by decide +kernel
theorem dX12_text_153 : decode cX12_text 153 = .ok (.imul, 1) := by decide +kernel
theorem dX12_text_154 : decode cX12_text 154 = .ok (.iconst 1, 1) := by decide +kernel
theorem dX12_text_155 : decode cX12_text 155 = .ok (.iadd, 1) := by decide +kernel
theorem dX12_text_156 : decode cX12_text 156 = .ok (.iaload, 1) := by decide +kernel
theorem dX12_text_157 : decode cX12_text 157 = .ok (.iastore, 1) := by decide +kernel
theorem dX12_text_158 : decode cX12_text 158 = .ok (.aload_n 0, 1) := by decide +kernel
theorem dX12_text_159 : decode cX12_text 159 = .ok (.getfield 7, 3) := by decide +kernel
theorem dX12_text_162 : decode cX12_text 162 = .ok (.sipush 640, 3) := by decide +kernel
theorem dX12_text_165 : decode cX12_text 165 = .ok (.iload_n 2, 1) := by decide +kernel
theorem dX12_text_166 : decode cX12_text 166 = .ok (.iadd, 1) := by decide +kernel
theorem dX12_text_167 : decode cX12_text 167 = .ok (.aload_n 0, 1) := by decide +kernel
theorem dX12_text_168 : decode cX12_text 168 = .ok (.getfield 19, 3) := by decide +kernel
theorem dX12_text_171 : decode cX12_text 171 = .ok (.iconst 3, 1) := by decide +kernel
theorem dX12_text_172 : decode cX12_text 172 = .ok (.iload_n 2, 1) := by decide +kernel
theorem dX12_text_173 : decode cX12_text 173 = .ok (.imul, 1) := by decide +kernel
theorem dX12_text_174 : decode cX12_text 174 = .ok (.iconst 2, 1) := by decide +kernel
theorem dX12_text_175 : decode cX12_text 175 = .ok (.iadd, 1) := by decide +kernel
theorem dX12_text_176 : decode cX12_text 176 = .ok (.iaload, 1) := by decide +kernel
theorem dX12_text_177 : decode cX12_text 177 = .ok (.iastore, 1) := by decide +kernel
theorem dX12_text_178 : decode cX12_text 178 = .ok (.iinc 2 1, 3) := by decide +kernel
theorem dX12_text_181 : decode cX12_text 181 = .ok (.goto (-69), 3) := by decide +kernel
theorem dX12_text_184 : decode cX12_text 184 = .ok (.iconst 0, 1) := by decide +kernel
theorem dX12_text_185 : decode cX12_text 185 = .ok (.istore_n 2, 1) := by decide +kernel
theorem dX12_text_186 : decode cX12_text 186 = .ok (.iload_n 2, 1) := by decide +kernel
theorem dX12_text_187 : decode cX12_text 187 = .ok (.iconst 2, 1) := by decide +kernel
theorem dX12_text_188 : decode cX12_text 188 = .ok (.aload_n 0, 1) := by decide +kernel
theorem dX12_text_189 : decode cX12_text 189 = .ok (.getfield 163, 3) := by decide +kernel
theorem dX12_text_192 : decode cX12_text 192 = .ok (.imul, 1) := by decide +kernel
theorem dX12_text_193 : decode cX12_text 193 = .ok (.if_icmp .ge 25, 3) := by decide +kernel
theorem dX12_text_196 : decode cX12_text 196 = .ok (.aload_n 0, 1) := by decide +kernel
theorem dX12_text_197 : decode cX12_text 197 = .ok (.getfield 7, 3) := by decide +kernel
theorem dX12_text_200 : decode cX12_text 200 = .ok (.sipush 660, 3) := by decide +kernel
theorem dX12_text_203 : decode cX12_text 203 = .ok (.iload_n 2, 1) := by decide +kernel
theorem dX12_text_204 : decode cX12_text 204 = .ok (.iadd, 1) := by decide +kernel
theorem dX12_text_205 : decode cX12_text 205 = .ok (.aload_n 0, 1) := by decide +kernel
theorem dX12_text_206 : decode cX12_text 206 = .ok (.getfield 22, 3) := by decide +kernel
theorem dX12_text_209 : decode cX12_text 209 = .ok (.iload_n 2, 1) := by decide +kernel
theorem dX12_text_210 : decode cX12_text 210 = .ok (.iaload, 1) := by decide +kernel
theorem dX12_text_211 : decode cX12_text 211 = .ok (.iastore, 1) := by decide +kernel
theorem dX12_text_212 : decode cX12_text 212 = .ok (.iinc 2 1, 3) := by decide +kernel
theorem dX12_text_215 : decode cX12_text 215 = .ok (.goto (-29), 3) := by decide +kernel
theorem dX12_text_218 : decode cX12_text 218 = .ok (.aload_n 0, 1) := by decide +kernel
theorem dX12_text_219 : decode cX12_text 219 = .ok (.getfield 197, 3) := by decide +kernel
theorem dX12_text_222 : decode cX12_text 222 = .ok (.ireturn, 1) := by decide +kernel
theorem dX12_fault_0 : decode cX12_fault 0 = .ok (.iload_n 1, 1) := by decide +kernel
theorem dX12_fault_1 : decode cX12_fault 1 = .ok (.ifCond .ne 10, 3) := by decide +kernel
theorem dX12_fault_4 : decode cX12_fault 4 = .ok (.aload_n 0, 1) := by decide +kernel
theorem dX12_fault_5 : decode cX12_fault 5 = .ok (.getfield 203, 3) := by decide +kernel
theorem dX12_fault_8 : decode cX12_fault 8 = .ok (.goto 16, 3) := by decide +kernel
theorem dX12_fault_11 : decode cX12_fault 11 = .ok (.iload_n 1, 1) := by decide +kernel
theorem dX12_fault_12 : decode cX12_fault 12 = .ok (.iconst 1, 1) := by decide +kernel
theorem dX12_fault_13 : decode cX12_fault 13 = .ok (.if_icmp .ne 10, 3) := by decide +kernel
theorem dX12_fault_16 : decode cX12_fault 16 = .ok (.aload_n 0, 1) := by decide +kernel
theorem dX12_fault_17 : decode cX12_fault 17 = .ok (.getfield 34, 3) := by decide +kernel
theorem dX12_fault_20 : decode cX12_fault 20 = .ok (.goto 4, 3) := by decide +kernel
theorem dX12_fault_23 : decode cX12_fault 23 = .ok (.iconst (-1), 1) := by decide +kernel
theorem dX12_fault_24 : decode cX12_fault 24 = .ok (.ireturn, 1) := by decide +kernel
theorem dX12_both_0 : decode cX12_both 0 = .ok (.iload_n 0, 1) := by decide +kernel
theorem dX12_both_1 : decode cX12_both 1 = .ok (.tableswitch 100 13 21 #[51, 55, 59, 100, 63, 74, 85, 100, 96], 51) := by decide +kernel
theorem dX12_both_52 : decode cX12_both 52 = .ok (.iload_n 1, 1) := by decide +kernel
theorem dX12_both_53 : decode cX12_both 53 = .ok (.iload_n 2, 1) := by decide +kernel
theorem dX12_both_54 : decode cX12_both 54 = .ok (.iadd, 1) := by decide +kernel
theorem dX12_both_55 : decode cX12_both 55 = .ok (.ireturn, 1) := by decide +kernel
theorem dX12_both_56 : decode cX12_both 56 = .ok (.iload_n 1, 1) := by decide +kernel
theorem dX12_both_57 : decode cX12_both 57 = .ok (.iload_n 2, 1) := by decide +kernel
theorem dX12_both_58 : decode cX12_both 58 = .ok (.isub, 1) := by decide +kernel
theorem dX12_both_59 : decode cX12_both 59 = .ok (.ireturn, 1) := by decide +kernel
theorem dX12_both_60 : decode cX12_both 60 = .ok (.iload_n 1, 1) := by decide +kernel
theorem dX12_both_61 : decode cX12_both 61 = .ok (.iload_n 2, 1) := by decide +kernel
theorem dX12_both_62 : decode cX12_both 62 = .ok (.imul, 1) := by decide +kernel
theorem dX12_both_63 : decode cX12_both 63 = .ok (.ireturn, 1) := by decide +kernel
theorem dX12_both_64 : decode cX12_both 64 = .ok (.iload_n 1, 1) := by decide +kernel
theorem dX12_both_65 : decode cX12_both 65 = .ok (.iload_n 2, 1) := by decide +kernel
theorem dX12_both_66 : decode cX12_both 66 = .ok (.if_icmp .ge 7, 3) := by decide +kernel
theorem dX12_both_69 : decode cX12_both 69 = .ok (.iconst 1, 1) := by decide +kernel
theorem dX12_both_70 : decode cX12_both 70 = .ok (.goto 4, 3) := by decide +kernel
theorem dX12_both_73 : decode cX12_both 73 = .ok (.iconst 0, 1) := by decide +kernel
theorem dX12_both_74 : decode cX12_both 74 = .ok (.ireturn, 1) := by decide +kernel
theorem dX12_both_75 : decode cX12_both 75 = .ok (.iload_n 1, 1) := by decide +kernel
theorem dX12_both_76 : decode cX12_both 76 = .ok (.iload_n 2, 1) := by decide +kernel
theorem dX12_both_77 : decode cX12_both 77 = .ok (.if_icmp .ne 7, 3) := by decide +kernel
theorem dX12_both_80 : decode cX12_both 80 = .ok (.iconst 1, 1) := by decide +kernel
theorem dX12_both_81 : decode cX12_both 81 = .ok (.goto 4, 3) := by decide +kernel
theorem dX12_both_84 : decode cX12_both 84 = .ok (.iconst 0, 1) := by decide +kernel
theorem dX12_both_85 : decode cX12_both 85 = .ok (.ireturn, 1) := by decide +kernel
theorem dX12_both_86 : decode cX12_both 86 = .ok (.iload_n 1, 1) := by decide +kernel
theorem dX12_both_87 : decode cX12_both 87 = .ok (.iload_n 2, 1) := by decide +kernel
theorem dX12_both_88 : decode cX12_both 88 = .ok (.if_icmp .le 7, 3) := by decide +kernel
theorem dX12_both_91 : decode cX12_both 91 = .ok (.iconst 1, 1) := by decide +kernel
theorem dX12_both_92 : decode cX12_both 92 = .ok (.goto 4, 3) := by decide +kernel
theorem dX12_both_95 : decode cX12_both 95 = .ok (.iconst 0, 1) := by decide +kernel
theorem dX12_both_96 : decode cX12_both 96 = .ok (.ireturn, 1) := by decide +kernel
theorem dX12_both_97 : decode cX12_both 97 = .ok (.iload_n 1, 1) := by decide +kernel
theorem dX12_both_98 : decode cX12_both 98 = .ok (.iload_n 2, 1) := by decide +kernel
theorem dX12_both_99 : decode cX12_both 99 = .ok (.iand, 1) := by decide +kernel
theorem dX12_both_100 : decode cX12_both 100 = .ok (.ireturn, 1) := by decide +kernel
theorem dX12_both_101 : decode cX12_both 101 = .ok (.iload_n 1, 1) := by decide +kernel
theorem dX12_both_102 : decode cX12_both 102 = .ok (.iload_n 2, 1) := by decide +kernel
theorem dX12_both_103 : decode cX12_both 103 = .ok (.ior, 1) := by decide +kernel
theorem dX12_both_104 : decode cX12_both 104 = .ok (.ireturn, 1) := by decide +kernel
theorem dX12_comesTo_0 : decode cX12_comesTo 0 = .ok (.iconst 0, 1) := by decide +kernel
theorem dX12_comesTo_1 : decode cX12_comesTo 1 = .ok (.istore_n 3, 1) := by decide +kernel
theorem dX12_comesTo_2 : decode cX12_comesTo 2 = .ok (.iload_n 1, 1) := by decide +kernel
theorem dX12_comesTo_3 : decode cX12_comesTo 3 = .ok (.istore 4, 2) := by decide +kernel
theorem dX12_comesTo_5 : decode cX12_comesTo 5 = .ok (.iload 4, 2) := by decide +kernel
theorem dX12_comesTo_7 : decode cX12_comesTo 7 = .ok (.iload_n 2, 1) := by decide +kernel
theorem dX12_comesTo_8 : decode cX12_comesTo 8 = .ok (.if_icmp .ge 158, 3) := by decide +kernel
theorem dX12_comesTo_11 : decode cX12_comesTo 11 = .ok (.aload_n 0, 1) := by decide +kernel
theorem dX12_comesTo_12 : decode cX12_comesTo 12 = .ok (.getfield 7, 3) := by decide +kernel
theorem dX12_comesTo_15 : decode cX12_comesTo 15 = .ok (.sipush 660, 3) := by decide +kernel
theorem dX12_comesTo_18 : decode cX12_comesTo 18 = .ok (.iconst 2, 1) := by decide +kernel
theorem dX12_comesTo_19 : decode cX12_comesTo 19 = .ok (.iload 4, 2) := by decide +kernel
theorem dX12_comesTo_21 : decode cX12_comesTo 21 = .ok (.imul, 1) := by decide +kernel
theorem dX12_comesTo_22 : decode cX12_comesTo 22 = .ok (.iadd, 1) := by decide +kernel
theorem dX12_comesTo_23 : decode cX12_comesTo 23 = .ok (.iaload, 1) := by decide +kernel
theorem dX12_comesTo_24 : decode cX12_comesTo 24 = .ok (.istore 5, 2) := by decide +kernel
theorem dX12_comesTo_26 : decode cX12_comesTo 26 = .ok (.aload_n 0, 1) := by decide +kernel
theorem dX12_comesTo_27 : decode cX12_comesTo 27 = .ok (.getfield 7, 3) := by decide +kernel
theorem dX12_comesTo_30 : decode cX12_comesTo 30 = .ok (.sipush 660, 3) := by decide +kernel
theorem dX12_comesTo_33 : decode cX12_comesTo 33 = .ok (.iconst 2, 1) := by decide +kernel
theorem dX12_comesTo_34 : decode cX12_comesTo 34 = .ok (.iload 4, 2) := by decide +kernel
theorem dX12_comesTo_36 : decode cX12_comesTo 36 = .ok (.imul, 1) := by decide +kernel
theorem dX12_comesTo_37 : decode cX12_comesTo 37 = .ok (.iadd, 1) := by decide +kernel
theorem dX12_comesTo_38 : decode cX12_comesTo 38 = .ok (.iconst 1, 1) := by decide +kernel
theorem dX12_comesTo_39 : decode cX12_comesTo 39 = .ok (.iadd, 1) := by decide +kernel
theorem dX12_comesTo_40 : decode cX12_comesTo 40 = .ok (.iaload, 1) := by decide +kernel
theorem dX12_comesTo_41 : decode cX12_comesTo 41 = .ok (.istore 6, 2) := by decide +kernel
theorem dX12_comesTo_43 : decode cX12_comesTo 43 = .ok (.iload 5, 2) := by decide +kernel
theorem dX12_comesTo_45 : decode cX12_comesTo 45 = .ok (.bipush 13, 2) := by decide +kernel
theorem dX12_comesTo_47 : decode cX12_comesTo 47 = .ok (.if_icmp .ge 32, 3) := by decide +kernel
theorem dX12_comesTo_50 : decode cX12_comesTo 50 = .ok (.aload_n 0, 1) := by decide +kernel
theorem dX12_comesTo_51 : decode cX12_comesTo 51 = .ok (.getfield 28, 3) := by decide +kernel
theorem dX12_comesTo_54 : decode cX12_comesTo 54 = .ok (.iload_n 3, 1) := by decide +kernel
theorem dX12_comesTo_55 : decode cX12_comesTo 55 = .ok (.iload 5, 2) := by decide +kernel
theorem dX12_comesTo_57 : decode cX12_comesTo 57 = .ok (.ifCond .ne 8, 3) := by decide +kernel
theorem dX12_comesTo_60 : decode cX12_comesTo 60 = .ok (.iload 6, 2) := by decide +kernel
theorem dX12_comesTo_62 : decode cX12_comesTo 62 = .ok (.goto 10, 3) := by decide +kernel
theorem dX12_comesTo_65 : decode cX12_comesTo 65 = .ok (.aload_n 0, 1) := by decide +kernel
theorem dX12_comesTo_66 : decode cX12_comesTo 66 = .ok (.getfield 31, 3) := by decide +kernel
theorem dX12_comesTo_69 : decode cX12_comesTo 69 = .ok (.iload 5, 2) := by decide +kernel
theorem dX12_comesTo_71 : decode cX12_comesTo 71 = .ok (.iaload, 1) := by decide +kernel
theorem dX12_comesTo_72 : decode cX12_comesTo 72 = .ok (.iastore, 1) := by decide +kernel
theorem dX12_comesTo_73 : decode cX12_comesTo 73 = .ok (.iinc 3 1, 3) := by decide +kernel
theorem dX12_comesTo_76 : decode cX12_comesTo 76 = .ok (.goto 84, 3) := by decide +kernel
theorem dX12_comesTo_79 : decode cX12_comesTo 79 = .ok (.iload 5, 2) := by decide +kernel
theorem dX12_comesTo_81 : decode cX12_comesTo 81 = .ok (.bipush 16, 2) := by decide +kernel
theorem dX12_comesTo_83 : decode cX12_comesTo 83 = .ok (.if_icmp .ne 19, 3) := by decide +kernel
theorem dX12_comesTo_86 : decode cX12_comesTo 86 = .ok (.aload_n 0, 1) := by decide +kernel
theorem dX12_comesTo_87 : decode cX12_comesTo 87 = .ok (.getfield 28, 3) := by decide +kernel
theorem dX12_comesTo_90 : decode cX12_comesTo 90 = .ok (.iload_n 3, 1) := by decide +kernel
theorem dX12_comesTo_91 : decode cX12_comesTo 91 = .ok (.iconst 1, 1) := by decide +kernel
theorem dX12_comesTo_92 : decode cX12_comesTo 92 = .ok (.isub, 1) := by decide +kernel
theorem dX12_comesTo_93 : decode cX12_comesTo 93 = .ok (.dup2, 1) := by decide +kernel
theorem dX12_comesTo_94 : decode cX12_comesTo 94 = .ok (.iaload, 1) := by decide +kernel
theorem dX12_comesTo_95 : decode cX12_comesTo 95 = .ok (.iload 6, 2) := by decide +kernel
theorem dX12_comesTo_97 : decode cX12_comesTo 97 = .ok (.idiv, 1) := by decide +kernel
theorem dX12_comesTo_98 : decode cX12_comesTo 98 = .ok (.iastore, 1) := by decide +kernel
theorem dX12_comesTo_99 : decode cX12_comesTo 99 = .ok (.goto 61, 3) := by decide +kernel
theorem dX12_comesTo_102 : decode cX12_comesTo 102 = .ok (.iload 5, 2) := by decide +kernel
theorem dX12_comesTo_104 : decode cX12_comesTo 104 = .ok (.bipush 20, 2) := by decide +kernel
theorem dX12_comesTo_106 : decode cX12_comesTo 106 = .ok (.if_icmp .ne 24, 3) := by decide +kernel
theorem dX12_comesTo_109 : decode cX12_comesTo 109 = .ok (.aload_n 0, 1) := by decide +kernel
theorem dX12_comesTo_110 : decode cX12_comesTo 110 = .ok (.getfield 28, 3) := by decide +kernel
theorem dX12_comesTo_113 : decode cX12_comesTo 113 = .ok (.iload_n 3, 1) := by decide +kernel
theorem dX12_comesTo_114 : decode cX12_comesTo 114 = .ok (.iconst 1, 1) := by decide +kernel
theorem dX12_comesTo_115 : decode cX12_comesTo 115 = .ok (.isub, 1) := by decide +kernel
theorem dX12_comesTo_116 : decode cX12_comesTo 116 = .ok (.iconst 1, 1) := by decide +kernel
theorem dX12_comesTo_117 : decode cX12_comesTo 117 = .ok (.aload_n 0, 1) := by decide +kernel
theorem dX12_comesTo_118 : decode cX12_comesTo 118 = .ok (.getfield 28, 3) := by decide +kernel
theorem dX12_comesTo_121 : decode cX12_comesTo 121 = .ok (.iload_n 3, 1) := by decide +kernel
theorem dX12_comesTo_122 : decode cX12_comesTo 122 = .ok (.iconst 1, 1) := by decide +kernel
theorem dX12_comesTo_123 : decode cX12_comesTo 123 = .ok (.isub, 1) := by decide +kernel
theorem dX12_comesTo_124 : decode cX12_comesTo 124 = .ok (.iaload, 1) := by decide +kernel
theorem dX12_comesTo_125 : decode cX12_comesTo 125 = .ok (.isub, 1) := by decide +kernel
theorem dX12_comesTo_126 : decode cX12_comesTo 126 = .ok (.iastore, 1) := by decide +kernel
theorem dX12_comesTo_127 : decode cX12_comesTo 127 = .ok (.goto 33, 3) := by decide +kernel
theorem dX12_comesTo_130 : decode cX12_comesTo 130 = .ok (.iinc 3 (-1), 3) := by decide +kernel
theorem dX12_comesTo_133 : decode cX12_comesTo 133 = .ok (.aload_n 0, 1) := by decide +kernel
theorem dX12_comesTo_134 : decode cX12_comesTo 134 = .ok (.getfield 28, 3) := by decide +kernel
theorem dX12_comesTo_137 : decode cX12_comesTo 137 = .ok (.iload_n 3, 1) := by decide +kernel
theorem dX12_comesTo_138 : decode cX12_comesTo 138 = .ok (.iconst 1, 1) := by decide +kernel
theorem dX12_comesTo_139 : decode cX12_comesTo 139 = .ok (.isub, 1) := by decide +kernel
theorem dX12_comesTo_140 : decode cX12_comesTo 140 = .ok (.iload 5, 2) := by decide +kernel
theorem dX12_comesTo_142 : decode cX12_comesTo 142 = .ok (.aload_n 0, 1) := by decide +kernel
theorem dX12_comesTo_143 : decode cX12_comesTo 143 = .ok (.getfield 28, 3) := by decide +kernel
theorem dX12_comesTo_146 : decode cX12_comesTo 146 = .ok (.iload_n 3, 1) := by decide +kernel
theorem dX12_comesTo_147 : decode cX12_comesTo 147 = .ok (.iconst 1, 1) := by decide +kernel
theorem dX12_comesTo_148 : decode cX12_comesTo 148 = .ok (.isub, 1) := by decide +kernel
theorem dX12_comesTo_149 : decode cX12_comesTo 149 = .ok (.iaload, 1) := by decide +kernel
theorem dX12_comesTo_150 : decode cX12_comesTo 150 = .ok (.aload_n 0, 1) := by decide +kernel
theorem dX12_comesTo_151 : decode cX12_comesTo 151 = .ok (.getfield 28, 3) := by decide +kernel
theorem dX12_comesTo_154 : decode cX12_comesTo 154 = .ok (.iload_n 3, 1) := by decide +kernel
theorem dX12_comesTo_155 : decode cX12_comesTo 155 = .ok (.iaload, 1) := by decide +kernel
theorem dX12_comesTo_156 : decode cX12_comesTo 156 = .ok (.invokestatic 206, 3) := by decide +kernel
theorem dX12_comesTo_159 : decode cX12_comesTo 159 = .ok (.iastore, 1) := by decide +kernel
theorem dX12_comesTo_160 : decode cX12_comesTo 160 = .ok (.iinc 4 1, 3) := by decide +kernel
theorem dX12_comesTo_163 : decode cX12_comesTo 163 = .ok (.goto (-158), 3) := by decide +kernel
theorem dX12_comesTo_166 : decode cX12_comesTo 166 = .ok (.aload_n 0, 1) := by decide +kernel
theorem dX12_comesTo_167 : decode cX12_comesTo 167 = .ok (.getfield 28, 3) := by decide +kernel
theorem dX12_comesTo_170 : decode cX12_comesTo 170 = .ok (.iconst 0, 1) := by decide +kernel
theorem dX12_comesTo_171 : decode cX12_comesTo 171 = .ok (.iaload, 1) := by decide +kernel
theorem dX12_comesTo_172 : decode cX12_comesTo 172 = .ok (.ireturn, 1) := by decide +kernel
theorem dX12_takesRow_0 : decode cX12_takesRow 0 = .ok (.aload_n 0, 1) := by decide +kernel
theorem dX12_takesRow_1 : decode cX12_takesRow 1 = .ok (.getfield 75, 3) := by decide +kernel
theorem dX12_takesRow_4 : decode cX12_takesRow 4 = .ok (.istore_n 1, 1) := by decide +kernel
theorem dX12_takesRow_5 : decode cX12_takesRow 5 = .ok (.aload_n 0, 1) := by decide +kernel
theorem dX12_takesRow_6 : decode cX12_takesRow 6 = .ok (.iconst 0, 1) := by decide +kernel
theorem dX12_takesRow_7 : decode cX12_takesRow 7 = .ok (.putfield 75, 3) := by decide +kernel
theorem dX12_takesRow_10 : decode cX12_takesRow 10 = .ok (.iload_n 1, 1) := by decide +kernel
theorem dX12_takesRow_11 : decode cX12_takesRow 11 = .ok (.iconst 1, 1) := by decide +kernel
theorem dX12_takesRow_12 : decode cX12_takesRow 12 = .ok (.iconst 5, 1) := by decide +kernel
theorem dX12_takesRow_13 : decode cX12_takesRow 13 = .ok (.invokestatic 66, 3) := by decide +kernel
theorem dX12_takesRow_16 : decode cX12_takesRow 16 = .ok (.ifCond .ne 5, 3) := by decide +kernel
theorem dX12_takesRow_19 : decode cX12_takesRow 19 = .ok (.iconst (-1), 1) := by decide +kernel
theorem dX12_takesRow_20 : decode cX12_takesRow 20 = .ok (.ireturn, 1) := by decide +kernel
theorem dX12_takesRow_21 : decode cX12_takesRow 21 = .ok (.iconst 0, 1) := by decide +kernel
theorem dX12_takesRow_22 : decode cX12_takesRow 22 = .ok (.istore_n 2, 1) := by decide +kernel
theorem dX12_takesRow_23 : decode cX12_takesRow 23 = .ok (.iload_n 2, 1) := by decide +kernel
theorem dX12_takesRow_24 : decode cX12_takesRow 24 = .ok (.iload_n 1, 1) := by decide +kernel
theorem dX12_takesRow_25 : decode cX12_takesRow 25 = .ok (.if_icmp .ge 27, 3) := by decide +kernel
theorem dX12_takesRow_28 : decode cX12_takesRow 28 = .ok (.aload_n 0, 1) := by decide +kernel
theorem dX12_takesRow_29 : decode cX12_takesRow 29 = .ok (.getfield 25, 3) := by decide +kernel
theorem dX12_takesRow_32 : decode cX12_takesRow 32 = .ok (.iload_n 2, 1) := by decide +kernel
theorem dX12_takesRow_33 : decode cX12_takesRow 33 = .ok (.iaload, 1) := by decide +kernel
theorem dX12_takesRow_34 : decode cX12_takesRow 34 = .ok (.bipush 97, 2) := by decide +kernel
theorem dX12_takesRow_36 : decode cX12_takesRow 36 = .ok (.bipush 104, 2) := by decide +kernel
theorem dX12_takesRow_38 : decode cX12_takesRow 38 = .ok (.invokestatic 66, 3) := by decide +kernel
theorem dX12_takesRow_41 : decode cX12_takesRow 41 = .ok (.ifCond .ne 5, 3) := by decide +kernel
theorem dX12_takesRow_44 : decode cX12_takesRow 44 = .ok (.iconst (-1), 1) := by decide +kernel
theorem dX12_takesRow_45 : decode cX12_takesRow 45 = .ok (.ireturn, 1) := by decide +kernel
theorem dX12_takesRow_46 : decode cX12_takesRow 46 = .ok (.iinc 2 1, 3) := by decide +kernel
theorem dX12_takesRow_49 : decode cX12_takesRow 49 = .ok (.goto (-26), 3) := by decide +kernel
theorem dX12_takesRow_52 : decode cX12_takesRow 52 = .ok (.iload_n 1, 1) := by decide +kernel
theorem dX12_takesRow_53 : decode cX12_takesRow 53 = .ok (.ireturn, 1) := by decide +kernel
theorem dX12_house_0 : decode cX12_house 0 = .ok (.aload_n 0, 1) := by decide +kernel
theorem dX12_house_1 : decode cX12_house 1 = .ok (.invokevirtual 210, 3) := by decide +kernel
theorem dX12_house_4 : decode cX12_house 4 = .ok (.istore 4, 2) := by decide +kernel
theorem dX12_house_6 : decode cX12_house 6 = .ok (.iload 4, 2) := by decide +kernel
theorem dX12_house_8 : decode cX12_house 8 = .ok (.iconst (-1), 1) := by decide +kernel
theorem dX12_house_9 : decode cX12_house 9 = .ok (.if_icmp .eq 46, 3) := by decide +kernel
theorem dX12_house_12 : decode cX12_house 12 = .ok (.iload_n 1, 1) := by decide +kernel
theorem dX12_house_13 : decode cX12_house 13 = .ok (.iconst 0, 1) := by decide +kernel
theorem dX12_house_14 : decode cX12_house 14 = .ok (.sipush 999, 3) := by decide +kernel
theorem dX12_house_17 : decode cX12_house 17 = .ok (.invokestatic 66, 3) := by decide +kernel
theorem dX12_house_20 : decode cX12_house 20 = .ok (.ifCond .eq 35, 3) := by decide +kernel
theorem dX12_house_23 : decode cX12_house 23 = .ok (.iload_n 2, 1) := by decide +kernel
theorem dX12_house_24 : decode cX12_house 24 = .ok (.iconst 1, 1) := by decide +kernel
theorem dX12_house_25 : decode cX12_house 25 = .ok (.sipush 999, 3) := by decide +kernel
theorem dX12_house_28 : decode cX12_house 28 = .ok (.invokestatic 66, 3) := by decide +kernel
theorem dX12_house_31 : decode cX12_house 31 = .ok (.ifCond .eq 24, 3) := by decide +kernel
theorem dX12_house_34 : decode cX12_house 34 = .ok (.iload_n 3, 1) := by decide +kernel
theorem dX12_house_35 : decode cX12_house 35 = .ok (.iconst 1, 1) := by decide +kernel
theorem dX12_house_36 : decode cX12_house 36 = .ok (.bipush 99, 2) := by decide +kernel
theorem dX12_house_38 : decode cX12_house 38 = .ok (.invokestatic 66, 3) := by decide +kernel
theorem dX12_house_41 : decode cX12_house 41 = .ok (.ifCond .eq 14, 3) := by decide +kernel
theorem dX12_house_44 : decode cX12_house 44 = .ok (.aload_n 0, 1) := by decide +kernel
theorem dX12_house_45 : decode cX12_house 45 = .ok (.getfield 7, 3) := by decide +kernel
theorem dX12_house_48 : decode cX12_house 48 = .ok (.iconst 4, 1) := by decide +kernel
theorem dX12_house_49 : decode cX12_house 49 = .ok (.iaload, 1) := by decide +kernel
theorem dX12_house_50 : decode cX12_house 50 = .ok (.bipush 9, 2) := by decide +kernel
theorem dX12_house_52 : decode cX12_house 52 = .ok (.if_icmp .ne 5, 3) := by decide +kernel
theorem dX12_house_55 : decode cX12_house 55 = .ok (.iconst (-1), 1) := by decide +kernel
theorem dX12_house_56 : decode cX12_house 56 = .ok (.ireturn, 1) := by decide +kernel
theorem dX12_house_57 : decode cX12_house 57 = .ok (.bipush 20, 2) := by decide +kernel
theorem dX12_house_59 : decode cX12_house 59 = .ok (.bipush 16, 2) := by decide +kernel
theorem dX12_house_61 : decode cX12_house 61 = .ok (.aload_n 0, 1) := by decide +kernel
theorem dX12_house_62 : decode cX12_house 62 = .ok (.getfield 7, 3) := by decide +kernel
theorem dX12_house_65 : decode cX12_house 65 = .ok (.iconst 4, 1) := by decide +kernel
theorem dX12_house_66 : decode cX12_house 66 = .ok (.iaload, 1) := by decide +kernel
theorem dX12_house_67 : decode cX12_house 67 = .ok (.imul, 1) := by decide +kernel
theorem dX12_house_68 : decode cX12_house 68 = .ok (.iadd, 1) := by decide +kernel
theorem dX12_house_69 : decode cX12_house 69 = .ok (.istore 5, 2) := by decide +kernel
theorem dX12_house_71 : decode cX12_house 71 = .ok (.iconst 0, 1) := by decide +kernel
theorem dX12_house_72 : decode cX12_house 72 = .ok (.istore 6, 2) := by decide +kernel
theorem dX12_house_74 : decode cX12_house 74 = .ok (.iload 6, 2) := by decide +kernel
theorem dX12_house_76 : decode cX12_house 76 = .ok (.bipush 16, 2) := by decide +kernel
theorem dX12_house_78 : decode cX12_house 78 = .ok (.if_icmp .ge 20, 3) := by decide +kernel
theorem dX12_house_81 : decode cX12_house 81 = .ok (.aload_n 0, 1) := by decide +kernel
theorem dX12_house_82 : decode cX12_house 82 = .ok (.getfield 7, 3) := by decide +kernel
theorem dX12_house_85 : decode cX12_house 85 = .ok (.iload 5, 2) := by decide +kernel
theorem dX12_house_87 : decode cX12_house 87 = .ok (.iload 6, 2) := by decide +kernel
theorem dX12_house_89 : decode cX12_house 89 = .ok (.iadd, 1) := by decide +kernel
theorem dX12_house_90 : decode cX12_house 90 = .ok (.iconst 0, 1) := by decide +kernel
theorem dX12_house_91 : decode cX12_house 91 = .ok (.iastore, 1) := by decide +kernel
theorem dX12_house_92 : decode cX12_house 92 = .ok (.iinc 6 1, 3) := by decide +kernel
theorem dX12_house_95 : decode cX12_house 95 = .ok (.goto (-21), 3) := by decide +kernel
theorem dX12_house_98 : decode cX12_house 98 = .ok (.aload_n 0, 1) := by decide +kernel
theorem dX12_house_99 : decode cX12_house 99 = .ok (.getfield 7, 3) := by decide +kernel
theorem dX12_house_102 : decode cX12_house 102 = .ok (.iload 5, 2) := by decide +kernel
theorem dX12_house_104 : decode cX12_house 104 = .ok (.iconst 0, 1) := by decide +kernel
theorem dX12_house_105 : decode cX12_house 105 = .ok (.iadd, 1) := by decide +kernel
theorem dX12_house_106 : decode cX12_house 106 = .ok (.iload_n 1, 1) := by decide +kernel
theorem dX12_house_107 : decode cX12_house 107 = .ok (.iastore, 1) := by decide +kernel
theorem dX12_house_108 : decode cX12_house 108 = .ok (.aload_n 0, 1) := by decide +kernel
theorem dX12_house_109 : decode cX12_house 109 = .ok (.getfield 7, 3) := by decide +kernel
theorem dX12_house_112 : decode cX12_house 112 = .ok (.iload 5, 2) := by decide +kernel
theorem dX12_house_114 : decode cX12_house 114 = .ok (.iconst 1, 1) := by decide +kernel
theorem dX12_house_115 : decode cX12_house 115 = .ok (.iadd, 1) := by decide +kernel
theorem dX12_house_116 : decode cX12_house 116 = .ok (.iload_n 2, 1) := by decide +kernel
theorem dX12_house_117 : decode cX12_house 117 = .ok (.iastore, 1) := by decide +kernel
theorem dX12_house_118 : decode cX12_house 118 = .ok (.aload_n 0, 1) := by decide +kernel
theorem dX12_house_119 : decode cX12_house 119 = .ok (.getfield 7, 3) := by decide +kernel
theorem dX12_house_122 : decode cX12_house 122 = .ok (.iload 5, 2) := by decide +kernel
theorem dX12_house_124 : decode cX12_house 124 = .ok (.iconst 2, 1) := by decide +kernel
theorem dX12_house_125 : decode cX12_house 125 = .ok (.iadd, 1) := by decide +kernel
theorem dX12_house_126 : decode cX12_house 126 = .ok (.iload_n 3, 1) := by decide +kernel
theorem dX12_house_127 : decode cX12_house 127 = .ok (.iastore, 1) := by decide +kernel
theorem dX12_house_128 : decode cX12_house 128 = .ok (.aload_n 0, 1) := by decide +kernel
theorem dX12_house_129 : decode cX12_house 129 = .ok (.getfield 7, 3) := by decide +kernel
theorem dX12_house_132 : decode cX12_house 132 = .ok (.iload 5, 2) := by decide +kernel
theorem dX12_house_134 : decode cX12_house 134 = .ok (.bipush 9, 2) := by decide +kernel
theorem dX12_house_136 : decode cX12_house 136 = .ok (.iadd, 1) := by decide +kernel
theorem dX12_house_137 : decode cX12_house 137 = .ok (.iload 4, 2) := by decide +kernel
theorem dX12_house_139 : decode cX12_house 139 = .ok (.iastore, 1) := by decide +kernel
theorem dX12_house_140 : decode cX12_house 140 = .ok (.iconst 0, 1) := by decide +kernel
theorem dX12_house_141 : decode cX12_house 141 = .ok (.istore 6, 2) := by decide +kernel
theorem dX12_house_143 : decode cX12_house 143 = .ok (.iload 6, 2) := by decide +kernel
theorem dX12_house_145 : decode cX12_house 145 = .ok (.iload 4, 2) := by decide +kernel
theorem dX12_house_147 : decode cX12_house 147 = .ok (.if_icmp .ge 32, 3) := by decide +kernel
theorem dX12_house_150 : decode cX12_house 150 = .ok (.aload_n 0, 1) := by decide +kernel
theorem dX12_house_151 : decode cX12_house 151 = .ok (.getfield 7, 3) := by decide +kernel
theorem dX12_house_154 : decode cX12_house 154 = .ok (.iload 5, 2) := by decide +kernel
theorem dX12_house_156 : decode cX12_house 156 = .ok (.bipush 10, 2) := by decide +kernel
theorem dX12_house_158 : decode cX12_house 158 = .ok (.iadd, 1) := by decide +kernel
theorem dX12_house_159 : decode cX12_house 159 = .ok (.iload 6, 2) := by decide +kernel
theorem dX12_house_161 : decode cX12_house 161 = .ok (.iadd, 1) := by decide +kernel
theorem dX12_house_162 : decode cX12_house 162 = .ok (.aload_n 0, 1) := by decide +kernel
theorem dX12_house_163 : decode cX12_house 163 = .ok (.getfield 25, 3) := by decide +kernel
theorem dX12_house_166 : decode cX12_house 166 = .ok (.iload 6, 2) := by decide +kernel
theorem dX12_house_168 : decode cX12_house 168 = .ok (.iaload, 1) := by decide +kernel
theorem dX12_house_169 : decode cX12_house 169 = .ok (.bipush 97, 2) := by decide +kernel
theorem dX12_house_171 : decode cX12_house 171 = .ok (.isub, 1) := by decide +kernel
theorem dX12_house_172 : decode cX12_house 172 = .ok (.iastore, 1) := by decide +kernel
theorem dX12_house_173 : decode cX12_house 173 = .ok (.iinc 6 1, 3) := by decide +kernel
theorem dX12_house_176 : decode cX12_house 176 = .ok (.goto (-33), 3) := by decide +kernel
theorem dX12_house_179 : decode cX12_house 179 = .ok (.aload_n 0, 1) := by decide +kernel
theorem dX12_house_180 : decode cX12_house 180 = .ok (.getfield 7, 3) := by decide +kernel
theorem dX12_house_183 : decode cX12_house 183 = .ok (.iconst 4, 1) := by decide +kernel
theorem dX12_house_184 : decode cX12_house 184 = .ok (.dup2, 1) := by decide +kernel
theorem dX12_house_185 : decode cX12_house 185 = .ok (.iaload, 1) := by decide +kernel
theorem dX12_house_186 : decode cX12_house 186 = .ok (.iconst 1, 1) := by decide +kernel
theorem dX12_house_187 : decode cX12_house 187 = .ok (.iadd, 1) := by decide +kernel
theorem dX12_house_188 : decode cX12_house 188 = .ok (.iastore, 1) := by decide +kernel
theorem dX12_house_189 : decode cX12_house 189 = .ok (.aload_n 0, 1) := by decide +kernel
theorem dX12_house_190 : decode cX12_house 190 = .ok (.invokevirtual 213, 3) := by decide +kernel
theorem dX12_house_193 : decode cX12_house 193 = .ok (.aload_n 0, 1) := by decide +kernel
theorem dX12_house_194 : decode cX12_house 194 = .ok (.getfield 7, 3) := by decide +kernel
theorem dX12_house_197 : decode cX12_house 197 = .ok (.iconst 4, 1) := by decide +kernel
theorem dX12_house_198 : decode cX12_house 198 = .ok (.iaload, 1) := by decide +kernel
theorem dX12_house_199 : decode cX12_house 199 = .ok (.iconst 1, 1) := by decide +kernel
theorem dX12_house_200 : decode cX12_house 200 = .ok (.isub, 1) := by decide +kernel
theorem dX12_house_201 : decode cX12_house 201 = .ok (.ireturn, 1) := by decide +kernel
theorem dX12_give_0 : decode cX12_give 0 = .ok (.aload_n 0, 1) := by decide +kernel
theorem dX12_give_1 : decode cX12_give 1 = .ok (.iload_n 1, 1) := by decide +kernel
theorem dX12_give_2 : decode cX12_give 2 = .ok (.invokevirtual 216, 3) := by decide +kernel
theorem dX12_give_5 : decode cX12_give 5 = .ok (.ifCond .eq 26, 3) := by decide +kernel
theorem dX12_give_8 : decode cX12_give 8 = .ok (.iload_n 2, 1) := by decide +kernel
theorem dX12_give_9 : decode cX12_give 9 = .ok (.iconst 0, 1) := by decide +kernel
theorem dX12_give_10 : decode cX12_give 10 = .ok (.ldc 219, 2) := by decide +kernel
theorem dX12_give_12 : decode cX12_give 12 = .ok (.invokestatic 66, 3) := by decide +kernel
theorem dX12_give_15 : decode cX12_give 15 = .ok (.ifCond .eq 16, 3) := by decide +kernel
theorem dX12_give_18 : decode cX12_give 18 = .ok (.aload_n 0, 1) := by decide +kernel
theorem dX12_give_19 : decode cX12_give 19 = .ok (.iload_n 1, 1) := by decide +kernel
theorem dX12_give_20 : decode cX12_give 20 = .ok (.iconst 3, 1) := by decide +kernel
theorem dX12_give_21 : decode cX12_give 21 = .ok (.invokevirtual 220, 3) := by decide +kernel
theorem dX12_give_24 : decode cX12_give 24 = .ok (.iload_n 2, 1) := by decide +kernel
theorem dX12_give_25 : decode cX12_give 25 = .ok (.iadd, 1) := by decide +kernel
theorem dX12_give_26 : decode cX12_give 26 = .ok (.ldc 224, 2) := by decide +kernel
theorem dX12_give_28 : decode cX12_give 28 = .ok (.if_icmp .le 5, 3) := by decide +kernel
theorem dX12_give_31 : decode cX12_give 31 = .ok (.iconst 0, 1) := by decide +kernel
theorem dX12_give_32 : decode cX12_give 32 = .ok (.ireturn, 1) := by decide +kernel
theorem dX12_give_33 : decode cX12_give 33 = .ok (.aload_n 0, 1) := by decide +kernel
theorem dX12_give_34 : decode cX12_give 34 = .ok (.iload_n 1, 1) := by decide +kernel
theorem dX12_give_35 : decode cX12_give 35 = .ok (.iconst 3, 1) := by decide +kernel
theorem dX12_give_36 : decode cX12_give 36 = .ok (.iload_n 2, 1) := by decide +kernel
theorem dX12_give_37 : decode cX12_give 37 = .ok (.invokevirtual 225, 3) := by decide +kernel
theorem dX12_give_40 : decode cX12_give 40 = .ok (.aload_n 0, 1) := by decide +kernel
theorem dX12_give_41 : decode cX12_give 41 = .ok (.invokevirtual 213, 3) := by decide +kernel
theorem dX12_give_44 : decode cX12_give 44 = .ok (.iconst 1, 1) := by decide +kernel
theorem dX12_give_45 : decode cX12_give 45 = .ok (.ireturn, 1) := by decide +kernel
theorem dX12_set_0 : decode cX12_set 0 = .ok (.iload_n 1, 1) := by decide +kernel
theorem dX12_set_1 : decode cX12_set 1 = .ok (.iconst 0, 1) := by decide +kernel
theorem dX12_set_2 : decode cX12_set 2 = .ok (.iconst 3, 1) := by decide +kernel
theorem dX12_set_3 : decode cX12_set 3 = .ok (.invokestatic 66, 3) := by decide +kernel
theorem dX12_set_6 : decode cX12_set 6 = .ok (.ifCond .eq 31, 3) := by decide +kernel
theorem dX12_set_9 : decode cX12_set 9 = .ok (.iload_n 2, 1) := by decide +kernel
theorem dX12_set_10 : decode cX12_set 10 = .ok (.iload_n 1, 1) := by decide +kernel
theorem dX12_set_11 : decode cX12_set 11 = .ok (.ifCond .ne 7, 3) := by decide +kernel
theorem dX12_set_14 : decode cX12_set 14 = .ok (.iconst 1, 1) := by decide +kernel
theorem dX12_set_15 : decode cX12_set 15 = .ok (.goto 4, 3) := by decide +kernel
theorem dX12_set_18 : decode cX12_set 18 = .ok (.iconst 0, 1) := by decide +kernel
theorem dX12_set_19 : decode cX12_set 19 = .ok (.iload_n 1, 1) := by decide +kernel
theorem dX12_set_20 : decode cX12_set 20 = .ok (.iconst 3, 1) := by decide +kernel
theorem dX12_set_21 : decode cX12_set 21 = .ok (.if_icmp .ne 8, 3) := by decide +kernel
theorem dX12_set_24 : decode cX12_set 24 = .ok (.bipush 100, 2) := by decide +kernel
theorem dX12_set_26 : decode cX12_set 26 = .ok (.goto 5, 3) := by decide +kernel
theorem dX12_set_29 : decode cX12_set 29 = .ok (.bipush 99, 2) := by decide +kernel
theorem dX12_set_31 : decode cX12_set 31 = .ok (.invokestatic 66, 3) := by decide +kernel
theorem dX12_set_34 : decode cX12_set 34 = .ok (.ifCond .ne 5, 3) := by decide +kernel
theorem dX12_set_37 : decode cX12_set 37 = .ok (.iconst 0, 1) := by decide +kernel
theorem dX12_set_38 : decode cX12_set 38 = .ok (.ireturn, 1) := by decide +kernel
theorem dX12_set_39 : decode cX12_set 39 = .ok (.aload_n 0, 1) := by decide +kernel
theorem dX12_set_40 : decode cX12_set 40 = .ok (.getfield 7, 3) := by decide +kernel
theorem dX12_set_43 : decode cX12_set 43 = .ok (.iload_n 1, 1) := by decide +kernel
theorem dX12_set_44 : decode cX12_set 44 = .ok (.iload_n 2, 1) := by decide +kernel
theorem dX12_set_45 : decode cX12_set 45 = .ok (.iastore, 1) := by decide +kernel
theorem dX12_set_46 : decode cX12_set 46 = .ok (.aload_n 0, 1) := by decide +kernel
theorem dX12_set_47 : decode cX12_set 47 = .ok (.invokevirtual 213, 3) := by decide +kernel
theorem dX12_set_50 : decode cX12_set 50 = .ok (.iconst 1, 1) := by decide +kernel
theorem dX12_set_51 : decode cX12_set 51 = .ok (.ireturn, 1) := by decide +kernel
theorem dX12_debt_0 : decode cX12_debt 0 = .ok (.aload_n 0, 1) := by decide +kernel
theorem dX12_debt_1 : decode cX12_debt 1 = .ok (.getfield 7, 3) := by decide +kernel
theorem dX12_debt_4 : decode cX12_debt 4 = .ok (.sipush 180, 3) := by decide +kernel
theorem dX12_debt_7 : decode cX12_debt 7 = .ok (.bipush 9, 2) := by decide +kernel
theorem dX12_debt_9 : decode cX12_debt 9 = .ok (.iload_n 1, 1) := by decide +kernel
theorem dX12_debt_10 : decode cX12_debt 10 = .ok (.imul, 1) := by decide +kernel
theorem dX12_debt_11 : decode cX12_debt 11 = .ok (.iadd, 1) := by decide +kernel
theorem dX12_debt_12 : decode cX12_debt 12 = .ok (.iload_n 2, 1) := by decide +kernel
theorem dX12_debt_13 : decode cX12_debt 13 = .ok (.iadd, 1) := by decide +kernel
theorem dX12_debt_14 : decode cX12_debt 14 = .ok (.iaload, 1) := by decide +kernel
theorem dX12_debt_15 : decode cX12_debt 15 = .ok (.ireturn, 1) := by decide +kernel
theorem dX12_net_0 : decode cX12_net 0 = .ok (.iconst 0, 1) := by decide +kernel
theorem dX12_net_1 : decode cX12_net 1 = .ok (.istore_n 2, 1) := by decide +kernel
theorem dX12_net_2 : decode cX12_net 2 = .ok (.iconst 0, 1) := by decide +kernel
theorem dX12_net_3 : decode cX12_net 3 = .ok (.istore_n 3, 1) := by decide +kernel
theorem dX12_net_4 : decode cX12_net 4 = .ok (.iload_n 3, 1) := by decide +kernel
theorem dX12_net_5 : decode cX12_net 5 = .ok (.aload_n 0, 1) := by decide +kernel
theorem dX12_net_6 : decode cX12_net 6 = .ok (.getfield 7, 3) := by decide +kernel
theorem dX12_net_9 : decode cX12_net 9 = .ok (.iconst 4, 1) := by decide +kernel
theorem dX12_net_10 : decode cX12_net 10 = .ok (.iaload, 1) := by decide +kernel
theorem dX12_net_11 : decode cX12_net 11 = .ok (.if_icmp .ge 25, 3) := by decide +kernel
theorem dX12_net_14 : decode cX12_net 14 = .ok (.iload_n 2, 1) := by decide +kernel
theorem dX12_net_15 : decode cX12_net 15 = .ok (.aload_n 0, 1) := by decide +kernel
theorem dX12_net_16 : decode cX12_net 16 = .ok (.iload_n 3, 1) := by decide +kernel
theorem dX12_net_17 : decode cX12_net 17 = .ok (.iload_n 1, 1) := by decide +kernel
theorem dX12_net_18 : decode cX12_net 18 = .ok (.invokevirtual 229, 3) := by decide +kernel
theorem dX12_net_21 : decode cX12_net 21 = .ok (.aload_n 0, 1) := by decide +kernel
theorem dX12_net_22 : decode cX12_net 22 = .ok (.iload_n 1, 1) := by decide +kernel
theorem dX12_net_23 : decode cX12_net 23 = .ok (.iload_n 3, 1) := by decide +kernel
theorem dX12_net_24 : decode cX12_net 24 = .ok (.invokevirtual 229, 3) := by decide +kernel
theorem dX12_net_27 : decode cX12_net 27 = .ok (.isub, 1) := by decide +kernel
theorem dX12_net_28 : decode cX12_net 28 = .ok (.iadd, 1) := by decide +kernel
theorem dX12_net_29 : decode cX12_net 29 = .ok (.istore_n 2, 1) := by decide +kernel
theorem dX12_net_30 : decode cX12_net 30 = .ok (.iinc 3 1, 3) := by decide +kernel
theorem dX12_net_33 : decode cX12_net 33 = .ok (.goto (-29), 3) := by decide +kernel
theorem dX12_net_36 : decode cX12_net 36 = .ok (.iload_n 2, 1) := by decide +kernel
theorem dX12_net_37 : decode cX12_net 37 = .ok (.ireturn, 1) := by decide +kernel
theorem dX12_worth_0 : decode cX12_worth 0 = .ok (.aload_n 0, 1) := by decide +kernel
theorem dX12_worth_1 : decode cX12_worth 1 = .ok (.getfield 31, 3) := by decide +kernel
theorem dX12_worth_4 : decode cX12_worth 4 = .ok (.iconst 1, 1) := by decide +kernel
theorem dX12_worth_5 : decode cX12_worth 5 = .ok (.aload_n 0, 1) := by decide +kernel
theorem dX12_worth_6 : decode cX12_worth 6 = .ok (.iload_n 1, 1) := by decide +kernel
theorem dX12_worth_7 : decode cX12_worth 7 = .ok (.iconst 0, 1) := by decide +kernel
theorem dX12_worth_8 : decode cX12_worth 8 = .ok (.invokevirtual 220, 3) := by decide +kernel
theorem dX12_worth_11 : decode cX12_worth 11 = .ok (.iastore, 1) := by decide +kernel
theorem dX12_worth_12 : decode cX12_worth 12 = .ok (.aload_n 0, 1) := by decide +kernel
theorem dX12_worth_13 : decode cX12_worth 13 = .ok (.getfield 31, 3) := by decide +kernel
theorem dX12_worth_16 : decode cX12_worth 16 = .ok (.iconst 2, 1) := by decide +kernel
theorem dX12_worth_17 : decode cX12_worth 17 = .ok (.aload_n 0, 1) := by decide +kernel
theorem dX12_worth_18 : decode cX12_worth 18 = .ok (.iload_n 1, 1) := by decide +kernel
theorem dX12_worth_19 : decode cX12_worth 19 = .ok (.iconst 1, 1) := by decide +kernel
theorem dX12_worth_20 : decode cX12_worth 20 = .ok (.invokevirtual 220, 3) := by decide +kernel
theorem dX12_worth_23 : decode cX12_worth 23 = .ok (.iastore, 1) := by decide +kernel
theorem dX12_worth_24 : decode cX12_worth 24 = .ok (.iconst 0, 1) := by decide +kernel
theorem dX12_worth_25 : decode cX12_worth 25 = .ok (.istore_n 2, 1) := by decide +kernel
theorem dX12_worth_26 : decode cX12_worth 26 = .ok (.iload_n 2, 1) := by decide +kernel
theorem dX12_worth_27 : decode cX12_worth 27 = .ok (.iconst 4, 1) := by decide +kernel
theorem dX12_worth_28 : decode cX12_worth 28 = .ok (.if_icmp .ge 25, 3) := by decide +kernel
theorem dX12_worth_31 : decode cX12_worth 31 = .ok (.aload_n 0, 1) := by decide +kernel
theorem dX12_worth_32 : decode cX12_worth 32 = .ok (.getfield 31, 3) := by decide +kernel
theorem dX12_worth_35 : decode cX12_worth 35 = .ok (.iconst 3, 1) := by decide +kernel
theorem dX12_worth_36 : decode cX12_worth 36 = .ok (.iload_n 2, 1) := by decide +kernel
theorem dX12_worth_37 : decode cX12_worth 37 = .ok (.iadd, 1) := by decide +kernel
theorem dX12_worth_38 : decode cX12_worth 38 = .ok (.aload_n 0, 1) := by decide +kernel
theorem dX12_worth_39 : decode cX12_worth 39 = .ok (.iload_n 1, 1) := by decide +kernel
theorem dX12_worth_40 : decode cX12_worth 40 = .ok (.iconst 3, 1) := by decide +kernel
theorem dX12_worth_41 : decode cX12_worth 41 = .ok (.iload_n 2, 1) := by decide +kernel
theorem dX12_worth_42 : decode cX12_worth 42 = .ok (.iadd, 1) := by decide +kernel
theorem dX12_worth_43 : decode cX12_worth 43 = .ok (.invokevirtual 220, 3) := by decide +kernel
theorem dX12_worth_46 : decode cX12_worth 46 = .ok (.iastore, 1) := by decide +kernel
theorem dX12_worth_47 : decode cX12_worth 47 = .ok (.iinc 2 1, 3) := by decide +kernel
theorem dX12_worth_50 : decode cX12_worth 50 = .ok (.goto (-24), 3) := by decide +kernel
theorem dX12_worth_53 : decode cX12_worth 53 = .ok (.aload_n 0, 1) := by decide +kernel
theorem dX12_worth_54 : decode cX12_worth 54 = .ok (.getfield 31, 3) := by decide +kernel
theorem dX12_worth_57 : decode cX12_worth 57 = .ok (.bipush 7, 2) := by decide +kernel
theorem dX12_worth_59 : decode cX12_worth 59 = .ok (.aload_n 0, 1) := by decide +kernel
theorem dX12_worth_60 : decode cX12_worth 60 = .ok (.iload_n 1, 1) := by decide +kernel
theorem dX12_worth_61 : decode cX12_worth 61 = .ok (.bipush 8, 2) := by decide +kernel
theorem dX12_worth_63 : decode cX12_worth 63 = .ok (.invokevirtual 220, 3) := by decide +kernel
theorem dX12_worth_66 : decode cX12_worth 66 = .ok (.iastore, 1) := by decide +kernel
theorem dX12_worth_67 : decode cX12_worth 67 = .ok (.aload_n 0, 1) := by decide +kernel
theorem dX12_worth_68 : decode cX12_worth 68 = .ok (.getfield 31, 3) := by decide +kernel
theorem dX12_worth_71 : decode cX12_worth 71 = .ok (.bipush 8, 2) := by decide +kernel
theorem dX12_worth_73 : decode cX12_worth 73 = .ok (.iload_n 1, 1) := by decide +kernel
theorem dX12_worth_74 : decode cX12_worth 74 = .ok (.iastore, 1) := by decide +kernel
theorem dX12_worth_75 : decode cX12_worth 75 = .ok (.aload_n 0, 1) := by decide +kernel
theorem dX12_worth_76 : decode cX12_worth 76 = .ok (.getfield 31, 3) := by decide +kernel
theorem dX12_worth_79 : decode cX12_worth 79 = .ok (.bipush 9, 2) := by decide +kernel
theorem dX12_worth_81 : decode cX12_worth 81 = .ok (.aload_n 0, 1) := by decide +kernel
theorem dX12_worth_82 : decode cX12_worth 82 = .ok (.getfield 7, 3) := by decide +kernel
theorem dX12_worth_85 : decode cX12_worth 85 = .ok (.iconst 5, 1) := by decide +kernel
theorem dX12_worth_86 : decode cX12_worth 86 = .ok (.iaload, 1) := by decide +kernel
theorem dX12_worth_87 : decode cX12_worth 87 = .ok (.iastore, 1) := by decide +kernel
theorem dX12_worth_88 : decode cX12_worth 88 = .ok (.aload_n 0, 1) := by decide +kernel
theorem dX12_worth_89 : decode cX12_worth 89 = .ok (.getfield 31, 3) := by decide +kernel
theorem dX12_worth_92 : decode cX12_worth 92 = .ok (.bipush 10, 2) := by decide +kernel
theorem dX12_worth_94 : decode cX12_worth 94 = .ok (.aload_n 0, 1) := by decide +kernel
theorem dX12_worth_95 : decode cX12_worth 95 = .ok (.iload_n 1, 1) := by decide +kernel
theorem dX12_worth_96 : decode cX12_worth 96 = .ok (.invokevirtual 232, 3) := by decide +kernel
theorem dX12_worth_99 : decode cX12_worth 99 = .ok (.ineg, 1) := by decide +kernel
theorem dX12_worth_100 : decode cX12_worth 100 = .ok (.iastore, 1) := by decide +kernel
theorem dX12_worth_101 : decode cX12_worth 101 = .ok (.iconst 0, 1) := by decide +kernel
theorem dX12_worth_102 : decode cX12_worth 102 = .ok (.istore_n 2, 1) := by decide +kernel
theorem dX12_worth_103 : decode cX12_worth 103 = .ok (.iload_n 2, 1) := by decide +kernel
theorem dX12_worth_104 : decode cX12_worth 104 = .ok (.aload_n 0, 1) := by decide +kernel
theorem dX12_worth_105 : decode cX12_worth 105 = .ok (.getfield 7, 3) := by decide +kernel
theorem dX12_worth_108 : decode cX12_worth 108 = .ok (.sipush 590, 3) := by decide +kernel
theorem dX12_worth_111 : decode cX12_worth 111 = .ok (.iaload, 1) := by decide +kernel
theorem dX12_worth_112 : decode cX12_worth 112 = .ok (.if_icmp .ge 85, 3) := by decide +kernel
theorem dX12_worth_115 : decode cX12_worth 115 = .ok (.aload_n 0, 1) := by decide +kernel
theorem dX12_worth_116 : decode cX12_worth 116 = .ok (.getfield 7, 3) := by decide +kernel
theorem dX12_worth_119 : decode cX12_worth 119 = .ok (.sipush 640, 3) := by decide +kernel
theorem dX12_worth_122 : decode cX12_worth 122 = .ok (.iload_n 2, 1) := by decide +kernel
theorem dX12_worth_123 : decode cX12_worth 123 = .ok (.iadd, 1) := by decide +kernel
theorem dX12_worth_124 : decode cX12_worth 124 = .ok (.iaload, 1) := by decide +kernel
theorem dX12_worth_125 : decode cX12_worth 125 = .ok (.aload_n 0, 1) := by decide +kernel
theorem dX12_worth_126 : decode cX12_worth 126 = .ok (.getfield 7, 3) := by decide +kernel
theorem dX12_worth_129 : decode cX12_worth 129 = .ok (.sipush 620, 3) := by decide +kernel
theorem dX12_worth_132 : decode cX12_worth 132 = .ok (.iload_n 2, 1) := by decide +kernel
theorem dX12_worth_133 : decode cX12_worth 133 = .ok (.iadd, 1) := by decide +kernel
theorem dX12_worth_134 : decode cX12_worth 134 = .ok (.iaload, 1) := by decide +kernel
theorem dX12_worth_135 : decode cX12_worth 135 = .ok (.if_icmp .eq 31, 3) := by decide +kernel
theorem dX12_worth_138 : decode cX12_worth 138 = .ok (.aload_n 0, 1) := by decide +kernel
theorem dX12_worth_139 : decode cX12_worth 139 = .ok (.aload_n 0, 1) := by decide +kernel
theorem dX12_worth_140 : decode cX12_worth 140 = .ok (.getfield 7, 3) := by decide +kernel
theorem dX12_worth_143 : decode cX12_worth 143 = .ok (.sipush 620, 3) := by decide +kernel
theorem dX12_worth_146 : decode cX12_worth 146 = .ok (.iload_n 2, 1) := by decide +kernel
theorem dX12_worth_147 : decode cX12_worth 147 = .ok (.iadd, 1) := by decide +kernel
theorem dX12_worth_148 : decode cX12_worth 148 = .ok (.iaload, 1) := by decide +kernel
theorem dX12_worth_149 : decode cX12_worth 149 = .ok (.aload_n 0, 1) := by decide +kernel
theorem dX12_worth_150 : decode cX12_worth 150 = .ok (.getfield 7, 3) := by decide +kernel
theorem dX12_worth_153 : decode cX12_worth 153 = .ok (.sipush 640, 3) := by decide +kernel
theorem dX12_worth_156 : decode cX12_worth 156 = .ok (.iload_n 2, 1) := by decide +kernel
theorem dX12_worth_157 : decode cX12_worth 157 = .ok (.iadd, 1) := by decide +kernel
theorem dX12_worth_158 : decode cX12_worth 158 = .ok (.iaload, 1) := by decide +kernel
theorem dX12_worth_159 : decode cX12_worth 159 = .ok (.invokevirtual 235, 3) := by decide +kernel
theorem dX12_worth_162 : decode cX12_worth 162 = .ok (.iconst 1, 1) := by decide +kernel
theorem dX12_worth_163 : decode cX12_worth 163 = .ok (.if_icmp .ne 28, 3) := by decide +kernel
theorem dX12_worth_166 : decode cX12_worth 166 = .ok (.aload_n 0, 1) := by decide +kernel
theorem dX12_worth_167 : decode cX12_worth 167 = .ok (.aload_n 0, 1) := by decide +kernel
theorem dX12_worth_168 : decode cX12_worth 168 = .ok (.getfield 7, 3) := by decide +kernel
theorem dX12_worth_171 : decode cX12_worth 171 = .ok (.sipush 600, 3) := by decide +kernel
theorem dX12_worth_174 : decode cX12_worth 174 = .ok (.iload_n 2, 1) := by decide +kernel
theorem dX12_worth_175 : decode cX12_worth 175 = .ok (.iadd, 1) := by decide +kernel
theorem dX12_worth_176 : decode cX12_worth 176 = .ok (.iaload, 1) := by decide +kernel
theorem dX12_worth_177 : decode cX12_worth 177 = .ok (.aload_n 0, 1) := by decide +kernel
theorem dX12_worth_178 : decode cX12_worth 178 = .ok (.getfield 7, 3) := by decide +kernel
theorem dX12_worth_181 : decode cX12_worth 181 = .ok (.sipush 620, 3) := by decide +kernel
theorem dX12_worth_184 : decode cX12_worth 184 = .ok (.iload_n 2, 1) := by decide +kernel
theorem dX12_worth_185 : decode cX12_worth 185 = .ok (.iadd, 1) := by decide +kernel
theorem dX12_worth_186 : decode cX12_worth 186 = .ok (.iaload, 1) := by decide +kernel
theorem dX12_worth_187 : decode cX12_worth 187 = .ok (.invokevirtual 235, 3) := by decide +kernel
theorem dX12_worth_190 : decode cX12_worth 190 = .ok (.ireturn, 1) := by decide +kernel
theorem dX12_worth_191 : decode cX12_worth 191 = .ok (.iinc 2 1, 3) := by decide +kernel
theorem dX12_worth_194 : decode cX12_worth 194 = .ok (.goto (-91), 3) := by decide +kernel
theorem dX12_worth_197 : decode cX12_worth 197 = .ok (.iconst 0, 1) := by decide +kernel
theorem dX12_worth_198 : decode cX12_worth 198 = .ok (.ireturn, 1) := by decide +kernel
theorem dX12_laysOrder_0 : decode cX12_laysOrder 0 = .ok (.aload_n 0, 1) := by decide +kernel
theorem dX12_laysOrder_1 : decode cX12_laysOrder 1 = .ok (.getfield 7, 3) := by decide +kernel
theorem dX12_laysOrder_4 : decode cX12_laysOrder 4 = .ok (.iconst 4, 1) := by decide +kernel
theorem dX12_laysOrder_5 : decode cX12_laysOrder 5 = .ok (.iaload, 1) := by decide +kernel
theorem dX12_laysOrder_6 : decode cX12_laysOrder 6 = .ok (.istore_n 2, 1) := by decide +kernel
theorem dX12_laysOrder_7 : decode cX12_laysOrder 7 = .ok (.iconst 0, 1) := by decide +kernel
theorem dX12_laysOrder_8 : decode cX12_laysOrder 8 = .ok (.istore_n 3, 1) := by decide +kernel
theorem dX12_laysOrder_9 : decode cX12_laysOrder 9 = .ok (.iload_n 3, 1) := by decide +kernel
theorem dX12_laysOrder_10 : decode cX12_laysOrder 10 = .ok (.iload_n 2, 1) := by decide +kernel
theorem dX12_laysOrder_11 : decode cX12_laysOrder 11 = .ok (.if_icmp .ge 81, 3) := by decide +kernel
theorem dX12_laysOrder_14 : decode cX12_laysOrder 14 = .ok (.aload_n 0, 1) := by decide +kernel
theorem dX12_laysOrder_15 : decode cX12_laysOrder 15 = .ok (.getfield 41, 3) := by decide +kernel
theorem dX12_laysOrder_18 : decode cX12_laysOrder 18 = .ok (.iload_n 3, 1) := by decide +kernel
theorem dX12_laysOrder_19 : decode cX12_laysOrder 19 = .ok (.aload_n 0, 1) := by decide +kernel
theorem dX12_laysOrder_20 : decode cX12_laysOrder 20 = .ok (.iload_n 3, 1) := by decide +kernel
theorem dX12_laysOrder_21 : decode cX12_laysOrder 21 = .ok (.invokevirtual 238, 3) := by decide +kernel
theorem dX12_laysOrder_24 : decode cX12_laysOrder 24 = .ok (.iastore, 1) := by decide +kernel
theorem dX12_laysOrder_25 : decode cX12_laysOrder 25 = .ok (.iload_n 3, 1) := by decide +kernel
theorem dX12_laysOrder_26 : decode cX12_laysOrder 26 = .ok (.istore 4, 2) := by decide +kernel
theorem dX12_laysOrder_28 : decode cX12_laysOrder 28 = .ok (.iload 4, 2) := by decide +kernel
theorem dX12_laysOrder_30 : decode cX12_laysOrder 30 = .ok (.ifCond .le 48, 3) := by decide +kernel
theorem dX12_laysOrder_33 : decode cX12_laysOrder 33 = .ok (.aload_n 0, 1) := by decide +kernel
theorem dX12_laysOrder_34 : decode cX12_laysOrder 34 = .ok (.getfield 41, 3) := by decide +kernel
theorem dX12_laysOrder_37 : decode cX12_laysOrder 37 = .ok (.aload_n 0, 1) := by decide +kernel
theorem dX12_laysOrder_38 : decode cX12_laysOrder 38 = .ok (.getfield 38, 3) := by decide +kernel
theorem dX12_laysOrder_41 : decode cX12_laysOrder 41 = .ok (.iload 4, 2) := by decide +kernel
theorem dX12_laysOrder_43 : decode cX12_laysOrder 43 = .ok (.iconst 1, 1) := by decide +kernel
theorem dX12_laysOrder_44 : decode cX12_laysOrder 44 = .ok (.isub, 1) := by decide +kernel
theorem dX12_laysOrder_45 : decode cX12_laysOrder 45 = .ok (.iaload, 1) := by decide +kernel
theorem dX12_laysOrder_46 : decode cX12_laysOrder 46 = .ok (.iaload, 1) := by decide +kernel
theorem dX12_laysOrder_47 : decode cX12_laysOrder 47 = .ok (.aload_n 0, 1) := by decide +kernel
theorem dX12_laysOrder_48 : decode cX12_laysOrder 48 = .ok (.getfield 41, 3) := by decide +kernel
theorem dX12_laysOrder_51 : decode cX12_laysOrder 51 = .ok (.iload_n 3, 1) := by decide +kernel
theorem dX12_laysOrder_52 : decode cX12_laysOrder 52 = .ok (.iaload, 1) := by decide +kernel
theorem dX12_laysOrder_53 : decode cX12_laysOrder 53 = .ok (.if_icmp .ge 25, 3) := by decide +kernel
theorem dX12_laysOrder_56 : decode cX12_laysOrder 56 = .ok (.aload_n 0, 1) := by decide +kernel
theorem dX12_laysOrder_57 : decode cX12_laysOrder 57 = .ok (.getfield 38, 3) := by decide +kernel
theorem dX12_laysOrder_60 : decode cX12_laysOrder 60 = .ok (.iload 4, 2) := by decide +kernel
theorem dX12_laysOrder_62 : decode cX12_laysOrder 62 = .ok (.aload_n 0, 1) := by decide +kernel
theorem dX12_laysOrder_63 : decode cX12_laysOrder 63 = .ok (.getfield 38, 3) := by decide +kernel
theorem dX12_laysOrder_66 : decode cX12_laysOrder 66 = .ok (.iload 4, 2) := by decide +kernel
theorem dX12_laysOrder_68 : decode cX12_laysOrder 68 = .ok (.iconst 1, 1) := by decide +kernel
theorem dX12_laysOrder_69 : decode cX12_laysOrder 69 = .ok (.isub, 1) := by decide +kernel
theorem dX12_laysOrder_70 : decode cX12_laysOrder 70 = .ok (.iaload, 1) := by decide +kernel
theorem dX12_laysOrder_71 : decode cX12_laysOrder 71 = .ok (.iastore, 1) := by decide +kernel
theorem dX12_laysOrder_72 : decode cX12_laysOrder 72 = .ok (.iinc 4 (-1), 3) := by decide +kernel
theorem dX12_laysOrder_75 : decode cX12_laysOrder 75 = .ok (.goto (-47), 3) := by decide +kernel
theorem dX12_laysOrder_78 : decode cX12_laysOrder 78 = .ok (.aload_n 0, 1) := by decide +kernel
theorem dX12_laysOrder_79 : decode cX12_laysOrder 79 = .ok (.getfield 38, 3) := by decide +kernel
theorem dX12_laysOrder_82 : decode cX12_laysOrder 82 = .ok (.iload 4, 2) := by decide +kernel
theorem dX12_laysOrder_84 : decode cX12_laysOrder 84 = .ok (.iload_n 3, 1) := by decide +kernel
theorem dX12_laysOrder_85 : decode cX12_laysOrder 85 = .ok (.iastore, 1) := by decide +kernel
theorem dX12_laysOrder_86 : decode cX12_laysOrder 86 = .ok (.iinc 3 1, 3) := by decide +kernel
theorem dX12_laysOrder_89 : decode cX12_laysOrder 89 = .ok (.goto (-80), 3) := by decide +kernel
theorem dX12_laysOrder_92 : decode cX12_laysOrder 92 = .ok (.iload_n 1, 1) := by decide +kernel
theorem dX12_laysOrder_93 : decode cX12_laysOrder 93 = .ok (.ifCond .eq 19, 3) := by decide +kernel
theorem dX12_laysOrder_96 : decode cX12_laysOrder 96 = .ok (.aload_n 0, 1) := by decide +kernel
theorem dX12_laysOrder_97 : decode cX12_laysOrder 97 = .ok (.getfield 7, 3) := by decide +kernel
theorem dX12_laysOrder_100 : decode cX12_laysOrder 100 = .ok (.iconst 5, 1) := by decide +kernel
theorem dX12_laysOrder_101 : decode cX12_laysOrder 101 = .ok (.iaload, 1) := by decide +kernel
theorem dX12_laysOrder_102 : decode cX12_laysOrder 102 = .ok (.bipush 7, 2) := by decide +kernel
theorem dX12_laysOrder_104 : decode cX12_laysOrder 104 = .ok (.irem, 1) := by decide +kernel
theorem dX12_laysOrder_105 : decode cX12_laysOrder 105 = .ok (.ifCond .ne 7, 3) := by decide +kernel
theorem dX12_laysOrder_108 : decode cX12_laysOrder 108 = .ok (.iload_n 2, 1) := by decide +kernel
theorem dX12_laysOrder_109 : decode cX12_laysOrder 109 = .ok (.ifCond .ne 4, 3) := by decide +kernel
theorem dX12_laysOrder_112 : decode cX12_laysOrder 112 = .ok (.return_, 1) := by decide +kernel
theorem dX12_laysOrder_113 : decode cX12_laysOrder 113 = .ok (.iconst 0, 1) := by decide +kernel
theorem dX12_laysOrder_114 : decode cX12_laysOrder 114 = .ok (.istore_n 3, 1) := by decide +kernel
theorem dX12_laysOrder_115 : decode cX12_laysOrder 115 = .ok (.iconst 1, 1) := by decide +kernel
theorem dX12_laysOrder_116 : decode cX12_laysOrder 116 = .ok (.istore 4, 2) := by decide +kernel
theorem dX12_laysOrder_118 : decode cX12_laysOrder 118 = .ok (.iload 4, 2) := by decide +kernel
theorem dX12_laysOrder_120 : decode cX12_laysOrder 120 = .ok (.iload_n 2, 1) := by decide +kernel
theorem dX12_laysOrder_121 : decode cX12_laysOrder 121 = .ok (.if_icmp .ge 30, 3) := by decide +kernel
theorem dX12_laysOrder_124 : decode cX12_laysOrder 124 = .ok (.aload_n 0, 1) := by decide +kernel
theorem dX12_laysOrder_125 : decode cX12_laysOrder 125 = .ok (.iload 4, 2) := by decide +kernel
theorem dX12_laysOrder_127 : decode cX12_laysOrder 127 = .ok (.bipush 7, 2) := by decide +kernel
theorem dX12_laysOrder_129 : decode cX12_laysOrder 129 = .ok (.invokevirtual 220, 3) := by decide +kernel
theorem dX12_laysOrder_132 : decode cX12_laysOrder 132 = .ok (.aload_n 0, 1) := by decide +kernel
theorem dX12_laysOrder_133 : decode cX12_laysOrder 133 = .ok (.iload_n 3, 1) := by decide +kernel
theorem dX12_laysOrder_134 : decode cX12_laysOrder 134 = .ok (.bipush 7, 2) := by decide +kernel
theorem dX12_laysOrder_136 : decode cX12_laysOrder 136 = .ok (.invokevirtual 220, 3) := by decide +kernel
theorem dX12_laysOrder_139 : decode cX12_laysOrder 139 = .ok (.if_icmp .ge 6, 3) := by decide +kernel
theorem dX12_laysOrder_142 : decode cX12_laysOrder 142 = .ok (.iload 4, 2) := by decide +kernel
theorem dX12_laysOrder_144 : decode cX12_laysOrder 144 = .ok (.istore_n 3, 1) := by decide +kernel
theorem dX12_laysOrder_145 : decode cX12_laysOrder 145 = .ok (.iinc 4 1, 3) := by decide +kernel
theorem dX12_laysOrder_148 : decode cX12_laysOrder 148 = .ok (.goto (-30), 3) := by decide +kernel
theorem dX12_laysOrder_151 : decode cX12_laysOrder 151 = .ok (.iconst 0, 1) := by decide +kernel
theorem dX12_laysOrder_152 : decode cX12_laysOrder 152 = .ok (.istore 4, 2) := by decide +kernel
theorem dX12_laysOrder_154 : decode cX12_laysOrder 154 = .ok (.aload_n 0, 1) := by decide +kernel
theorem dX12_laysOrder_155 : decode cX12_laysOrder 155 = .ok (.getfield 38, 3) := by decide +kernel
theorem dX12_laysOrder_158 : decode cX12_laysOrder 158 = .ok (.iload 4, 2) := by decide +kernel
theorem dX12_laysOrder_160 : decode cX12_laysOrder 160 = .ok (.iaload, 1) := by decide +kernel
theorem dX12_laysOrder_161 : decode cX12_laysOrder 161 = .ok (.iload_n 3, 1) := by decide +kernel
theorem dX12_laysOrder_162 : decode cX12_laysOrder 162 = .ok (.if_icmp .eq 9, 3) := by decide +kernel
theorem dX12_laysOrder_165 : decode cX12_laysOrder 165 = .ok (.iinc 4 1, 3) := by decide +kernel
theorem dX12_laysOrder_168 : decode cX12_laysOrder 168 = .ok (.goto (-14), 3) := by decide +kernel
theorem dX12_laysOrder_171 : decode cX12_laysOrder 171 = .ok (.iload 4, 2) := by decide +kernel
theorem dX12_laysOrder_173 : decode cX12_laysOrder 173 = .ok (.istore 5, 2) := by decide +kernel
theorem dX12_laysOrder_175 : decode cX12_laysOrder 175 = .ok (.iload 5, 2) := by decide +kernel
theorem dX12_laysOrder_177 : decode cX12_laysOrder 177 = .ok (.ifCond .le 25, 3) := by decide +kernel
theorem dX12_laysOrder_180 : decode cX12_laysOrder 180 = .ok (.aload_n 0, 1) := by decide +kernel
theorem dX12_laysOrder_181 : decode cX12_laysOrder 181 = .ok (.getfield 38, 3) := by decide +kernel
theorem dX12_laysOrder_184 : decode cX12_laysOrder 184 = .ok (.iload 5, 2) := by decide +kernel
theorem dX12_laysOrder_186 : decode cX12_laysOrder 186 = .ok (.aload_n 0, 1) := by decide +kernel
theorem dX12_laysOrder_187 : decode cX12_laysOrder 187 = .ok (.getfield 38, 3) := by decide +kernel
theorem dX12_laysOrder_190 : decode cX12_laysOrder 190 = .ok (.iload 5, 2) := by decide +kernel
theorem dX12_laysOrder_192 : decode cX12_laysOrder 192 = .ok (.iconst 1, 1) := by decide +kernel
theorem dX12_laysOrder_193 : decode cX12_laysOrder 193 = .ok (.isub, 1) := by decide +kernel
theorem dX12_laysOrder_194 : decode cX12_laysOrder 194 = .ok (.iaload, 1) := by decide +kernel
theorem dX12_laysOrder_195 : decode cX12_laysOrder 195 = .ok (.iastore, 1) := by decide +kernel
theorem dX12_laysOrder_196 : decode cX12_laysOrder 196 = .ok (.iinc 5 (-1), 3) := by decide +kernel
theorem dX12_laysOrder_199 : decode cX12_laysOrder 199 = .ok (.goto (-24), 3) := by decide +kernel
theorem dX12_laysOrder_202 : decode cX12_laysOrder 202 = .ok (.aload_n 0, 1) := by decide +kernel
theorem dX12_laysOrder_203 : decode cX12_laysOrder 203 = .ok (.getfield 38, 3) := by decide +kernel
theorem dX12_laysOrder_206 : decode cX12_laysOrder 206 = .ok (.iconst 0, 1) := by decide +kernel
theorem dX12_laysOrder_207 : decode cX12_laysOrder 207 = .ok (.iload_n 3, 1) := by decide +kernel
theorem dX12_laysOrder_208 : decode cX12_laysOrder 208 = .ok (.iastore, 1) := by decide +kernel
theorem dX12_laysOrder_209 : decode cX12_laysOrder 209 = .ok (.return_, 1) := by decide +kernel
theorem dX12_order_0 : decode cX12_order 0 = .ok (.aload_n 0, 1) := by decide +kernel
theorem dX12_order_1 : decode cX12_order 1 = .ok (.iload_n 1, 1) := by decide +kernel
theorem dX12_order_2 : decode cX12_order 2 = .ok (.invokevirtual 216, 3) := by decide +kernel
theorem dX12_order_5 : decode cX12_order 5 = .ok (.ifCond .ne 5, 3) := by decide +kernel
theorem dX12_order_8 : decode cX12_order 8 = .ok (.iconst (-1), 1) := by decide +kernel
theorem dX12_order_9 : decode cX12_order 9 = .ok (.ireturn, 1) := by decide +kernel
theorem dX12_order_10 : decode cX12_order 10 = .ok (.aload_n 0, 1) := by decide +kernel
theorem dX12_order_11 : decode cX12_order 11 = .ok (.iconst 1, 1) := by decide +kernel
theorem dX12_order_12 : decode cX12_order 12 = .ok (.invokevirtual 240, 3) := by decide +kernel
theorem dX12_order_15 : decode cX12_order 15 = .ok (.aload_n 0, 1) := by decide +kernel
theorem dX12_order_16 : decode cX12_order 16 = .ok (.getfield 38, 3) := by decide +kernel
theorem dX12_order_19 : decode cX12_order 19 = .ok (.iload_n 1, 1) := by decide +kernel
theorem dX12_order_20 : decode cX12_order 20 = .ok (.iaload, 1) := by decide +kernel
theorem dX12_order_21 : decode cX12_order 21 = .ok (.ireturn, 1) := by decide +kernel
theorem dX12_loaf_0 : decode cX12_loaf 0 = .ok (.aload_n 0, 1) := by decide +kernel
theorem dX12_loaf_1 : decode cX12_loaf 1 = .ok (.iload_n 1, 1) := by decide +kernel
theorem dX12_loaf_2 : decode cX12_loaf 2 = .ok (.iconst 3, 1) := by decide +kernel
theorem dX12_loaf_3 : decode cX12_loaf 3 = .ok (.invokevirtual 220, 3) := by decide +kernel
theorem dX12_loaf_6 : decode cX12_loaf 6 = .ok (.aload_n 0, 1) := by decide +kernel
theorem dX12_loaf_7 : decode cX12_loaf 7 = .ok (.iload_n 1, 1) := by decide +kernel
theorem dX12_loaf_8 : decode cX12_loaf 8 = .ok (.iconst 0, 1) := by decide +kernel
theorem dX12_loaf_9 : decode cX12_loaf 9 = .ok (.invokevirtual 220, 3) := by decide +kernel
theorem dX12_loaf_12 : decode cX12_loaf 12 = .ok (.if_icmp .ge 12, 3) := by decide +kernel
theorem dX12_loaf_15 : decode cX12_loaf 15 = .ok (.aload_n 0, 1) := by decide +kernel
theorem dX12_loaf_16 : decode cX12_loaf 16 = .ok (.iload_n 1, 1) := by decide +kernel
theorem dX12_loaf_17 : decode cX12_loaf 17 = .ok (.iconst 3, 1) := by decide +kernel
theorem dX12_loaf_18 : decode cX12_loaf 18 = .ok (.invokevirtual 220, 3) := by decide +kernel
theorem dX12_loaf_21 : decode cX12_loaf 21 = .ok (.goto 9, 3) := by decide +kernel
theorem dX12_loaf_24 : decode cX12_loaf 24 = .ok (.aload_n 0, 1) := by decide +kernel
theorem dX12_loaf_25 : decode cX12_loaf 25 = .ok (.iload_n 1, 1) := by decide +kernel
theorem dX12_loaf_26 : decode cX12_loaf 26 = .ok (.iconst 0, 1) := by decide +kernel
theorem dX12_loaf_27 : decode cX12_loaf 27 = .ok (.invokevirtual 220, 3) := by decide +kernel
theorem dX12_loaf_30 : decode cX12_loaf 30 = .ok (.ireturn, 1) := by decide +kernel
theorem dX12_heats_0 : decode cX12_heats 0 = .ok (.aload_n 0, 1) := by decide +kernel
theorem dX12_heats_1 : decode cX12_heats 1 = .ok (.iload_n 1, 1) := by decide +kernel
theorem dX12_heats_2 : decode cX12_heats 2 = .ok (.invokevirtual 244, 3) := by decide +kernel
theorem dX12_heats_5 : decode cX12_heats 5 = .ok (.ifCond .ne 5, 3) := by decide +kernel
theorem dX12_heats_8 : decode cX12_heats 8 = .ok (.iconst 0, 1) := by decide +kernel
theorem dX12_heats_9 : decode cX12_heats 9 = .ok (.ireturn, 1) := by decide +kernel
theorem dX12_heats_10 : decode cX12_heats 10 = .ok (.aload_n 0, 1) := by decide +kernel
theorem dX12_heats_11 : decode cX12_heats 11 = .ok (.getfield 247, 3) := by decide +kernel
theorem dX12_heats_14 : decode cX12_heats 14 = .ok (.aload_n 0, 1) := by decide +kernel
theorem dX12_heats_15 : decode cX12_heats 15 = .ok (.iload_n 1, 1) := by decide +kernel
theorem dX12_heats_16 : decode cX12_heats 16 = .ok (.iconst 1, 1) := by decide +kernel
theorem dX12_heats_17 : decode cX12_heats 17 = .ok (.invokevirtual 220, 3) := by decide +kernel
theorem dX12_heats_20 : decode cX12_heats 20 = .ok (.if_icmp .lt 7, 3) := by decide +kernel
theorem dX12_heats_23 : decode cX12_heats 23 = .ok (.iconst 0, 1) := by decide +kernel
theorem dX12_heats_24 : decode cX12_heats 24 = .ok (.goto 30, 3) := by decide +kernel
theorem dX12_heats_27 : decode cX12_heats 27 = .ok (.aload_n 0, 1) := by decide +kernel
theorem dX12_heats_28 : decode cX12_heats 28 = .ok (.iload_n 1, 1) := by decide +kernel
theorem dX12_heats_29 : decode cX12_heats 29 = .ok (.iconst 1, 1) := by decide +kernel
theorem dX12_heats_30 : decode cX12_heats 30 = .ok (.invokevirtual 220, 3) := by decide +kernel
theorem dX12_heats_33 : decode cX12_heats 33 = .ok (.aload_n 0, 1) := by decide +kernel
theorem dX12_heats_34 : decode cX12_heats 34 = .ok (.getfield 247, 3) := by decide +kernel
theorem dX12_heats_37 : decode cX12_heats 37 = .ok (.isub, 1) := by decide +kernel
theorem dX12_heats_38 : decode cX12_heats 38 = .ok (.aload_n 0, 1) := by decide +kernel
theorem dX12_heats_39 : decode cX12_heats 39 = .ok (.getfield 7, 3) := by decide +kernel
theorem dX12_heats_42 : decode cX12_heats 42 = .ok (.iconst 0, 1) := by decide +kernel
theorem dX12_heats_43 : decode cX12_heats 43 = .ok (.iaload, 1) := by decide +kernel
theorem dX12_heats_44 : decode cX12_heats 44 = .ok (.iadd, 1) := by decide +kernel
theorem dX12_heats_45 : decode cX12_heats 45 = .ok (.iconst 1, 1) := by decide +kernel
theorem dX12_heats_46 : decode cX12_heats 46 = .ok (.isub, 1) := by decide +kernel
theorem dX12_heats_47 : decode cX12_heats 47 = .ok (.aload_n 0, 1) := by decide +kernel
theorem dX12_heats_48 : decode cX12_heats 48 = .ok (.getfield 7, 3) := by decide +kernel
theorem dX12_heats_51 : decode cX12_heats 51 = .ok (.iconst 0, 1) := by decide +kernel
theorem dX12_heats_52 : decode cX12_heats 52 = .ok (.iaload, 1) := by decide +kernel
theorem dX12_heats_53 : decode cX12_heats 53 = .ok (.idiv, 1) := by decide +kernel
theorem dX12_heats_54 : decode cX12_heats 54 = .ok (.istore_n 2, 1) := by decide +kernel
theorem dX12_heats_55 : decode cX12_heats 55 = .ok (.aload_n 0, 1) := by decide +kernel
theorem dX12_heats_56 : decode cX12_heats 56 = .ok (.dup, 1) := by decide +kernel
theorem dX12_heats_57 : decode cX12_heats 57 = .ok (.getfield 247, 3) := by decide +kernel
theorem dX12_heats_60 : decode cX12_heats 60 = .ok (.iload_n 2, 1) := by decide +kernel
theorem dX12_heats_61 : decode cX12_heats 61 = .ok (.aload_n 0, 1) := by decide +kernel
theorem dX12_heats_62 : decode cX12_heats 62 = .ok (.getfield 7, 3) := by decide +kernel
theorem dX12_heats_65 : decode cX12_heats 65 = .ok (.iconst 0, 1) := by decide +kernel
theorem dX12_heats_66 : decode cX12_heats 66 = .ok (.iaload, 1) := by decide +kernel
theorem dX12_heats_67 : decode cX12_heats 67 = .ok (.imul, 1) := by decide +kernel
theorem dX12_heats_68 : decode cX12_heats 68 = .ok (.aload_n 0, 1) := by decide +kernel
theorem dX12_heats_69 : decode cX12_heats 69 = .ok (.getfield 7, 3) := by decide +kernel
theorem dX12_heats_72 : decode cX12_heats 72 = .ok (.iconst 1, 1) := by decide +kernel
theorem dX12_heats_73 : decode cX12_heats 73 = .ok (.iaload, 1) := by decide +kernel
theorem dX12_heats_74 : decode cX12_heats 74 = .ok (.aload_n 0, 1) := by decide +kernel
theorem dX12_heats_75 : decode cX12_heats 75 = .ok (.iload_n 1, 1) := by decide +kernel
theorem dX12_heats_76 : decode cX12_heats 76 = .ok (.iconst 2, 1) := by decide +kernel
theorem dX12_heats_77 : decode cX12_heats 77 = .ok (.invokevirtual 220, 3) := by decide +kernel
theorem dX12_heats_80 : decode cX12_heats 80 = .ok (.imul, 1) := by decide +kernel
theorem dX12_heats_81 : decode cX12_heats 81 = .ok (.isub, 1) := by decide +kernel
theorem dX12_heats_82 : decode cX12_heats 82 = .ok (.iadd, 1) := by decide +kernel
theorem dX12_heats_83 : decode cX12_heats 83 = .ok (.putfield 247, 3) := by decide +kernel
theorem dX12_heats_86 : decode cX12_heats 86 = .ok (.aload_n 0, 1) := by decide +kernel
theorem dX12_heats_87 : decode cX12_heats 87 = .ok (.aload_n 0, 1) := by decide +kernel
theorem dX12_heats_88 : decode cX12_heats 88 = .ok (.getfield 247, 3) := by decide +kernel
theorem dX12_heats_91 : decode cX12_heats 91 = .ok (.ifCond .ge 7, 3) := by decide +kernel
theorem dX12_heats_94 : decode cX12_heats 94 = .ok (.iconst 0, 1) := by decide +kernel
theorem dX12_heats_95 : decode cX12_heats 95 = .ok (.goto 7, 3) := by decide +kernel
theorem dX12_heats_98 : decode cX12_heats 98 = .ok (.aload_n 0, 1) := by decide +kernel
theorem dX12_heats_99 : decode cX12_heats 99 = .ok (.getfield 247, 3) := by decide +kernel
theorem dX12_heats_102 : decode cX12_heats 102 = .ok (.putfield 247, 3) := by decide +kernel
theorem dX12_heats_105 : decode cX12_heats 105 = .ok (.iload_n 2, 1) := by decide +kernel
theorem dX12_heats_106 : decode cX12_heats 106 = .ok (.ireturn, 1) := by decide +kernel
theorem dX12_aDay_0 : decode cX12_aDay 0 = .ok (.aload_n 0, 1) := by decide +kernel
theorem dX12_aDay_1 : decode cX12_aDay 1 = .ok (.getfield 7, 3) := by decide +kernel
theorem dX12_aDay_4 : decode cX12_aDay 4 = .ok (.iconst 4, 1) := by decide +kernel
theorem dX12_aDay_5 : decode cX12_aDay 5 = .ok (.iaload, 1) := by decide +kernel
theorem dX12_aDay_6 : decode cX12_aDay 6 = .ok (.istore_n 1, 1) := by decide +kernel
theorem dX12_aDay_7 : decode cX12_aDay 7 = .ok (.aload_n 0, 1) := by decide +kernel
theorem dX12_aDay_8 : decode cX12_aDay 8 = .ok (.getfield 7, 3) := by decide +kernel
theorem dX12_aDay_11 : decode cX12_aDay 11 = .ok (.iconst 5, 1) := by decide +kernel
theorem dX12_aDay_12 : decode cX12_aDay 12 = .ok (.iaload, 1) := by decide +kernel
theorem dX12_aDay_13 : decode cX12_aDay 13 = .ok (.bipush 7, 2) := by decide +kernel
theorem dX12_aDay_15 : decode cX12_aDay 15 = .ok (.irem, 1) := by decide +kernel
theorem dX12_aDay_16 : decode cX12_aDay 16 = .ok (.ifCond .ne 7, 3) := by decide +kernel
theorem dX12_aDay_19 : decode cX12_aDay 19 = .ok (.iconst 1, 1) := by decide +kernel
theorem dX12_aDay_20 : decode cX12_aDay 20 = .ok (.goto 4, 3) := by decide +kernel
theorem dX12_aDay_23 : decode cX12_aDay 23 = .ok (.iconst 0, 1) := by decide +kernel
theorem dX12_aDay_24 : decode cX12_aDay 24 = .ok (.istore_n 2, 1) := by decide +kernel
theorem dX12_aDay_25 : decode cX12_aDay 25 = .ok (.aload_n 0, 1) := by decide +kernel
theorem dX12_aDay_26 : decode cX12_aDay 26 = .ok (.iconst 1, 1) := by decide +kernel
theorem dX12_aDay_27 : decode cX12_aDay 27 = .ok (.invokevirtual 240, 3) := by decide +kernel
theorem dX12_aDay_30 : decode cX12_aDay 30 = .ok (.iconst (-1), 1) := by decide +kernel
theorem dX12_aDay_31 : decode cX12_aDay 31 = .ok (.istore_n 3, 1) := by decide +kernel
theorem dX12_aDay_32 : decode cX12_aDay 32 = .ok (.aload_n 0, 1) := by decide +kernel
theorem dX12_aDay_33 : decode cX12_aDay 33 = .ok (.getfield 7, 3) := by decide +kernel
theorem dX12_aDay_36 : decode cX12_aDay 36 = .ok (.iconst 3, 1) := by decide +kernel
theorem dX12_aDay_37 : decode cX12_aDay 37 = .ok (.iaload, 1) := by decide +kernel
theorem dX12_aDay_38 : decode cX12_aDay 38 = .ok (.ifCond .le 28, 3) := by decide +kernel
theorem dX12_aDay_41 : decode cX12_aDay 41 = .ok (.iload_n 1, 1) := by decide +kernel
theorem dX12_aDay_42 : decode cX12_aDay 42 = .ok (.ifCond .le 24, 3) := by decide +kernel
theorem dX12_aDay_45 : decode cX12_aDay 45 = .ok (.aload_n 0, 1) := by decide +kernel
theorem dX12_aDay_46 : decode cX12_aDay 46 = .ok (.bipush 100, 2) := by decide +kernel
theorem dX12_aDay_48 : decode cX12_aDay 48 = .ok (.invokevirtual 250, 3) := by decide +kernel
theorem dX12_aDay_51 : decode cX12_aDay 51 = .ok (.aload_n 0, 1) := by decide +kernel
theorem dX12_aDay_52 : decode cX12_aDay 52 = .ok (.getfield 7, 3) := by decide +kernel
theorem dX12_aDay_55 : decode cX12_aDay 55 = .ok (.iconst 3, 1) := by decide +kernel
theorem dX12_aDay_56 : decode cX12_aDay 56 = .ok (.iaload, 1) := by decide +kernel
theorem dX12_aDay_57 : decode cX12_aDay 57 = .ok (.if_icmp .ge 9, 3) := by decide +kernel
theorem dX12_aDay_60 : decode cX12_aDay 60 = .ok (.aload_n 0, 1) := by decide +kernel
theorem dX12_aDay_61 : decode cX12_aDay 61 = .ok (.iload_n 1, 1) := by decide +kernel
theorem dX12_aDay_62 : decode cX12_aDay 62 = .ok (.invokevirtual 250, 3) := by decide +kernel
theorem dX12_aDay_65 : decode cX12_aDay 65 = .ok (.istore_n 3, 1) := by decide +kernel
theorem dX12_aDay_66 : decode cX12_aDay 66 = .ok (.aload_n 0, 1) := by decide +kernel
theorem dX12_aDay_67 : decode cX12_aDay 67 = .ok (.iconst 0, 1) := by decide +kernel
theorem dX12_aDay_68 : decode cX12_aDay 68 = .ok (.putfield 247, 3) := by decide +kernel
theorem dX12_aDay_71 : decode cX12_aDay 71 = .ok (.aload_n 0, 1) := by decide +kernel
theorem dX12_aDay_72 : decode cX12_aDay 72 = .ok (.getfield 7, 3) := by decide +kernel
theorem dX12_aDay_75 : decode cX12_aDay 75 = .ok (.bipush 9, 2) := by decide +kernel
theorem dX12_aDay_77 : decode cX12_aDay 77 = .ok (.iload_n 1, 1) := by decide +kernel
theorem dX12_aDay_78 : decode cX12_aDay 78 = .ok (.iastore, 1) := by decide +kernel
theorem dX12_aDay_79 : decode cX12_aDay 79 = .ok (.aload_n 0, 1) := by decide +kernel
theorem dX12_aDay_80 : decode cX12_aDay 80 = .ok (.getfield 7, 3) := by decide +kernel
theorem dX12_aDay_83 : decode cX12_aDay 83 = .ok (.bipush 10, 2) := by decide +kernel
theorem dX12_aDay_85 : decode cX12_aDay 85 = .ok (.iload_n 3, 1) := by decide +kernel
theorem dX12_aDay_86 : decode cX12_aDay 86 = .ok (.iconst (-1), 1) := by decide +kernel
theorem dX12_aDay_87 : decode cX12_aDay 87 = .ok (.if_icmp .ne 7, 3) := by decide +kernel
theorem dX12_aDay_90 : decode cX12_aDay 90 = .ok (.iconst (-1), 1) := by decide +kernel
theorem dX12_aDay_91 : decode cX12_aDay 91 = .ok (.goto 9, 3) := by decide +kernel
theorem dX12_aDay_94 : decode cX12_aDay 94 = .ok (.aload_n 0, 1) := by decide +kernel
theorem dX12_aDay_95 : decode cX12_aDay 95 = .ok (.getfield 38, 3) := by decide +kernel
theorem dX12_aDay_98 : decode cX12_aDay 98 = .ok (.iload_n 3, 1) := by decide +kernel
theorem dX12_aDay_99 : decode cX12_aDay 99 = .ok (.iaload, 1) := by decide +kernel
theorem dX12_aDay_100 : decode cX12_aDay 100 = .ok (.iastore, 1) := by decide +kernel
theorem dX12_aDay_101 : decode cX12_aDay 101 = .ok (.iconst 0, 1) := by decide +kernel
theorem dX12_aDay_102 : decode cX12_aDay 102 = .ok (.istore 4, 2) := by decide +kernel
theorem dX12_aDay_104 : decode cX12_aDay 104 = .ok (.iload 4, 2) := by decide +kernel
theorem dX12_aDay_106 : decode cX12_aDay 106 = .ok (.iload_n 1, 1) := by decide +kernel
theorem dX12_aDay_107 : decode cX12_aDay 107 = .ok (.if_icmp .ge 167, 3) := by decide +kernel
theorem dX12_aDay_110 : decode cX12_aDay 110 = .ok (.aload_n 0, 1) := by decide +kernel
theorem dX12_aDay_111 : decode cX12_aDay 111 = .ok (.getfield 38, 3) := by decide +kernel
theorem dX12_aDay_114 : decode cX12_aDay 114 = .ok (.iload 4, 2) := by decide +kernel
theorem dX12_aDay_116 : decode cX12_aDay 116 = .ok (.iaload, 1) := by decide +kernel
theorem dX12_aDay_117 : decode cX12_aDay 117 = .ok (.istore 5, 2) := by decide +kernel
theorem dX12_aDay_119 : decode cX12_aDay 119 = .ok (.aload_n 0, 1) := by decide +kernel
theorem dX12_aDay_120 : decode cX12_aDay 120 = .ok (.getfield 7, 3) := by decide +kernel
theorem dX12_aDay_123 : decode cX12_aDay 123 = .ok (.sipush 170, 3) := by decide +kernel
theorem dX12_aDay_126 : decode cX12_aDay 126 = .ok (.iload 4, 2) := by decide +kernel
theorem dX12_aDay_128 : decode cX12_aDay 128 = .ok (.iadd, 1) := by decide +kernel
theorem dX12_aDay_129 : decode cX12_aDay 129 = .ok (.iload 5, 2) := by decide +kernel
theorem dX12_aDay_131 : decode cX12_aDay 131 = .ok (.iastore, 1) := by decide +kernel
theorem dX12_aDay_132 : decode cX12_aDay 132 = .ok (.aload_n 0, 1) := by decide +kernel
theorem dX12_aDay_133 : decode cX12_aDay 133 = .ok (.iload 5, 2) := by decide +kernel
theorem dX12_aDay_135 : decode cX12_aDay 135 = .ok (.invokevirtual 244, 3) := by decide +kernel
theorem dX12_aDay_138 : decode cX12_aDay 138 = .ok (.istore 6, 2) := by decide +kernel
theorem dX12_aDay_140 : decode cX12_aDay 140 = .ok (.aload_n 0, 1) := by decide +kernel
theorem dX12_aDay_141 : decode cX12_aDay 141 = .ok (.iload 5, 2) := by decide +kernel
theorem dX12_aDay_143 : decode cX12_aDay 143 = .ok (.iconst 5, 1) := by decide +kernel
theorem dX12_aDay_144 : decode cX12_aDay 144 = .ok (.aload_n 0, 1) := by decide +kernel
theorem dX12_aDay_145 : decode cX12_aDay 145 = .ok (.iload 5, 2) := by decide +kernel
theorem dX12_aDay_147 : decode cX12_aDay 147 = .ok (.invokevirtual 253, 3) := by decide +kernel
theorem dX12_aDay_150 : decode cX12_aDay 150 = .ok (.invokevirtual 225, 3) := by decide +kernel
theorem dX12_aDay_153 : decode cX12_aDay 153 = .ok (.aload_n 0, 1) := by decide +kernel
theorem dX12_aDay_154 : decode cX12_aDay 154 = .ok (.iload 5, 2) := by decide +kernel
theorem dX12_aDay_156 : decode cX12_aDay 156 = .ok (.iconst 3, 1) := by decide +kernel
theorem dX12_aDay_157 : decode cX12_aDay 157 = .ok (.iload 6, 2) := by decide +kernel
theorem dX12_aDay_159 : decode cX12_aDay 159 = .ok (.ineg, 1) := by decide +kernel
theorem dX12_aDay_160 : decode cX12_aDay 160 = .ok (.invokevirtual 225, 3) := by decide +kernel
theorem dX12_aDay_163 : decode cX12_aDay 163 = .ok (.aload_n 0, 1) := by decide +kernel
theorem dX12_aDay_164 : decode cX12_aDay 164 = .ok (.getfield 7, 3) := by decide +kernel
theorem dX12_aDay_167 : decode cX12_aDay 167 = .ok (.bipush 20, 2) := by decide +kernel
theorem dX12_aDay_169 : decode cX12_aDay 169 = .ok (.bipush 16, 2) := by decide +kernel
theorem dX12_aDay_171 : decode cX12_aDay 171 = .ok (.iload 5, 2) := by decide +kernel
theorem dX12_aDay_173 : decode cX12_aDay 173 = .ok (.imul, 1) := by decide +kernel
theorem dX12_aDay_174 : decode cX12_aDay 174 = .ok (.iadd, 1) := by decide +kernel
theorem dX12_aDay_175 : decode cX12_aDay 175 = .ok (.bipush 8, 2) := by decide +kernel
theorem dX12_aDay_177 : decode cX12_aDay 177 = .ok (.iadd, 1) := by decide +kernel
theorem dX12_aDay_178 : decode cX12_aDay 178 = .ok (.iload 6, 2) := by decide +kernel
theorem dX12_aDay_180 : decode cX12_aDay 180 = .ok (.ifCond .ne 16, 3) := by decide +kernel
theorem dX12_aDay_183 : decode cX12_aDay 183 = .ok (.aload_n 0, 1) := by decide +kernel
theorem dX12_aDay_184 : decode cX12_aDay 184 = .ok (.iload 5, 2) := by decide +kernel
theorem dX12_aDay_186 : decode cX12_aDay 186 = .ok (.bipush 8, 2) := by decide +kernel
theorem dX12_aDay_188 : decode cX12_aDay 188 = .ok (.invokevirtual 220, 3) := by decide +kernel
theorem dX12_aDay_191 : decode cX12_aDay 191 = .ok (.iconst 1, 1) := by decide +kernel
theorem dX12_aDay_192 : decode cX12_aDay 192 = .ok (.iadd, 1) := by decide +kernel
theorem dX12_aDay_193 : decode cX12_aDay 193 = .ok (.goto 4, 3) := by decide +kernel
theorem dX12_aDay_196 : decode cX12_aDay 196 = .ok (.iconst 0, 1) := by decide +kernel
theorem dX12_aDay_197 : decode cX12_aDay 197 = .ok (.iastore, 1) := by decide +kernel
theorem dX12_aDay_198 : decode cX12_aDay 198 = .ok (.iload 4, 2) := by decide +kernel
theorem dX12_aDay_200 : decode cX12_aDay 200 = .ok (.iload_n 3, 1) := by decide +kernel
theorem dX12_aDay_201 : decode cX12_aDay 201 = .ok (.if_icmp .ne 18, 3) := by decide +kernel
theorem dX12_aDay_204 : decode cX12_aDay 204 = .ok (.aload_n 0, 1) := by decide +kernel
theorem dX12_aDay_205 : decode cX12_aDay 205 = .ok (.getfield 7, 3) := by decide +kernel
theorem dX12_aDay_208 : decode cX12_aDay 208 = .ok (.bipush 8, 2) := by decide +kernel
theorem dX12_aDay_210 : decode cX12_aDay 210 = .ok (.dup2, 1) := by decide +kernel
theorem dX12_aDay_211 : decode cX12_aDay 211 = .ok (.iaload, 1) := by decide +kernel
theorem dX12_aDay_212 : decode cX12_aDay 212 = .ok (.iload 6, 2) := by decide +kernel
theorem dX12_aDay_214 : decode cX12_aDay 214 = .ok (.iadd, 1) := by decide +kernel
theorem dX12_aDay_215 : decode cX12_aDay 215 = .ok (.iastore, 1) := by decide +kernel
theorem dX12_aDay_216 : decode cX12_aDay 216 = .ok (.goto 52, 3) := by decide +kernel
theorem dX12_aDay_219 : decode cX12_aDay 219 = .ok (.iload 4, 2) := by decide +kernel
theorem dX12_aDay_221 : decode cX12_aDay 221 = .ok (.ifCond .ne 7, 3) := by decide +kernel
theorem dX12_aDay_224 : decode cX12_aDay 224 = .ok (.iconst 0, 1) := by decide +kernel
theorem dX12_aDay_225 : decode cX12_aDay 225 = .ok (.goto 8, 3) := by decide +kernel
theorem dX12_aDay_228 : decode cX12_aDay 228 = .ok (.iload 6, 2) := by decide +kernel
theorem dX12_aDay_230 : decode cX12_aDay 230 = .ok (.bipush 9, 2) := by decide +kernel
theorem dX12_aDay_232 : decode cX12_aDay 232 = .ok (.idiv, 1) := by decide +kernel
theorem dX12_aDay_233 : decode cX12_aDay 233 = .ok (.istore 7, 2) := by decide +kernel
theorem dX12_aDay_235 : decode cX12_aDay 235 = .ok (.aload_n 0, 1) := by decide +kernel
theorem dX12_aDay_236 : decode cX12_aDay 236 = .ok (.iload 5, 2) := by decide +kernel
theorem dX12_aDay_238 : decode cX12_aDay 238 = .ok (.iconst 4, 1) := by decide +kernel
theorem dX12_aDay_239 : decode cX12_aDay 239 = .ok (.iload 6, 2) := by decide +kernel
theorem dX12_aDay_241 : decode cX12_aDay 241 = .ok (.iload 7, 2) := by decide +kernel
theorem dX12_aDay_243 : decode cX12_aDay 243 = .ok (.isub, 1) := by decide +kernel
theorem dX12_aDay_244 : decode cX12_aDay 244 = .ok (.invokevirtual 225, 3) := by decide +kernel
theorem dX12_aDay_247 : decode cX12_aDay 247 = .ok (.iload 4, 2) := by decide +kernel
theorem dX12_aDay_249 : decode cX12_aDay 249 = .ok (.ifCond .le 19, 3) := by decide +kernel
theorem dX12_aDay_252 : decode cX12_aDay 252 = .ok (.aload_n 0, 1) := by decide +kernel
theorem dX12_aDay_253 : decode cX12_aDay 253 = .ok (.aload_n 0, 1) := by decide +kernel
theorem dX12_aDay_254 : decode cX12_aDay 254 = .ok (.getfield 38, 3) := by decide +kernel
theorem dX12_aDay_257 : decode cX12_aDay 257 = .ok (.iload 4, 2) := by decide +kernel
theorem dX12_aDay_259 : decode cX12_aDay 259 = .ok (.iconst 1, 1) := by decide +kernel
theorem dX12_aDay_260 : decode cX12_aDay 260 = .ok (.isub, 1) := by decide +kernel
theorem dX12_aDay_261 : decode cX12_aDay 261 = .ok (.iaload, 1) := by decide +kernel
theorem dX12_aDay_262 : decode cX12_aDay 262 = .ok (.iconst 4, 1) := by decide +kernel
theorem dX12_aDay_263 : decode cX12_aDay 263 = .ok (.iload 7, 2) := by decide +kernel
theorem dX12_aDay_265 : decode cX12_aDay 265 = .ok (.invokevirtual 225, 3) := by decide +kernel
theorem dX12_aDay_268 : decode cX12_aDay 268 = .ok (.iinc 4 1, 3) := by decide +kernel
theorem dX12_aDay_271 : decode cX12_aDay 271 = .ok (.goto (-167), 3) := by decide +kernel
theorem dX12_aDay_274 : decode cX12_aDay 274 = .ok (.iload_n 1, 1) := by decide +kernel
theorem dX12_aDay_275 : decode cX12_aDay 275 = .ok (.ifCond .le 37, 3) := by decide +kernel
theorem dX12_aDay_278 : decode cX12_aDay 278 = .ok (.aload_n 0, 1) := by decide +kernel
theorem dX12_aDay_279 : decode cX12_aDay 279 = .ok (.aload_n 0, 1) := by decide +kernel
theorem dX12_aDay_280 : decode cX12_aDay 280 = .ok (.getfield 38, 3) := by decide +kernel
theorem dX12_aDay_283 : decode cX12_aDay 283 = .ok (.iconst 0, 1) := by decide +kernel
theorem dX12_aDay_284 : decode cX12_aDay 284 = .ok (.iaload, 1) := by decide +kernel
theorem dX12_aDay_285 : decode cX12_aDay 285 = .ok (.bipush 6, 2) := by decide +kernel
theorem dX12_aDay_287 : decode cX12_aDay 287 = .ok (.iconst 1, 1) := by decide +kernel
theorem dX12_aDay_288 : decode cX12_aDay 288 = .ok (.invokevirtual 225, 3) := by decide +kernel
theorem dX12_aDay_291 : decode cX12_aDay 291 = .ok (.aload_n 0, 1) := by decide +kernel
theorem dX12_aDay_292 : decode cX12_aDay 292 = .ok (.aload_n 0, 1) := by decide +kernel
theorem dX12_aDay_293 : decode cX12_aDay 293 = .ok (.getfield 38, 3) := by decide +kernel
theorem dX12_aDay_296 : decode cX12_aDay 296 = .ok (.iconst 0, 1) := by decide +kernel
theorem dX12_aDay_297 : decode cX12_aDay 297 = .ok (.iaload, 1) := by decide +kernel
theorem dX12_aDay_298 : decode cX12_aDay 298 = .ok (.bipush 7, 2) := by decide +kernel
theorem dX12_aDay_300 : decode cX12_aDay 300 = .ok (.iload_n 2, 1) := by decide +kernel
theorem dX12_aDay_301 : decode cX12_aDay 301 = .ok (.ifCond .eq 7, 3) := by decide +kernel
theorem dX12_aDay_304 : decode cX12_aDay 304 = .ok (.iconst 1, 1) := by decide +kernel
theorem dX12_aDay_305 : decode cX12_aDay 305 = .ok (.goto 4, 3) := by decide +kernel
theorem dX12_aDay_308 : decode cX12_aDay 308 = .ok (.iconst 0, 1) := by decide +kernel
theorem dX12_aDay_309 : decode cX12_aDay 309 = .ok (.invokevirtual 225, 3) := by decide +kernel
theorem dX12_aDay_312 : decode cX12_aDay 312 = .ok (.aload_n 0, 1) := by decide +kernel
theorem dX12_aDay_313 : decode cX12_aDay 313 = .ok (.getfield 7, 3) := by decide +kernel
theorem dX12_aDay_316 : decode cX12_aDay 316 = .ok (.iconst 5, 1) := by decide +kernel
theorem dX12_aDay_317 : decode cX12_aDay 317 = .ok (.dup2, 1) := by decide +kernel
theorem dX12_aDay_318 : decode cX12_aDay 318 = .ok (.iaload, 1) := by decide +kernel
theorem dX12_aDay_319 : decode cX12_aDay 319 = .ok (.iconst 1, 1) := by decide +kernel
theorem dX12_aDay_320 : decode cX12_aDay 320 = .ok (.iadd, 1) := by decide +kernel
theorem dX12_aDay_321 : decode cX12_aDay 321 = .ok (.iastore, 1) := by decide +kernel
theorem dX12_aDay_322 : decode cX12_aDay 322 = .ok (.iload_n 3, 1) := by decide +kernel
theorem dX12_aDay_323 : decode cX12_aDay 323 = .ok (.iconst (-1), 1) := by decide +kernel
theorem dX12_aDay_324 : decode cX12_aDay 324 = .ok (.if_icmp .ne 7, 3) := by decide +kernel
theorem dX12_aDay_327 : decode cX12_aDay 327 = .ok (.iconst 0, 1) := by decide +kernel
theorem dX12_aDay_328 : decode cX12_aDay 328 = .ok (.goto 4, 3) := by decide +kernel
theorem dX12_aDay_331 : decode cX12_aDay 331 = .ok (.iconst 1, 1) := by decide +kernel
theorem dX12_aDay_332 : decode cX12_aDay 332 = .ok (.ireturn, 1) := by decide +kernel
theorem dX12_days_0 : decode cX12_days 0 = .ok (.iload_n 1, 1) := by decide +kernel
theorem dX12_days_1 : decode cX12_days 1 = .ok (.iconst 1, 1) := by decide +kernel
theorem dX12_days_2 : decode cX12_days 2 = .ok (.sipush 400, 3) := by decide +kernel
theorem dX12_days_5 : decode cX12_days 5 = .ok (.invokestatic 66, 3) := by decide +kernel
theorem dX12_days_8 : decode cX12_days 8 = .ok (.ifCond .eq 17, 3) := by decide +kernel
theorem dX12_days_11 : decode cX12_days 11 = .ok (.aload_n 0, 1) := by decide +kernel
theorem dX12_days_12 : decode cX12_days 12 = .ok (.getfield 7, 3) := by decide +kernel
theorem dX12_days_15 : decode cX12_days 15 = .ok (.iconst 5, 1) := by decide +kernel
theorem dX12_days_16 : decode cX12_days 16 = .ok (.iaload, 1) := by decide +kernel
theorem dX12_days_17 : decode cX12_days 17 = .ok (.iload_n 1, 1) := by decide +kernel
theorem dX12_days_18 : decode cX12_days 18 = .ok (.iadd, 1) := by decide +kernel
theorem dX12_days_19 : decode cX12_days 19 = .ok (.sipush 9999, 3) := by decide +kernel
theorem dX12_days_22 : decode cX12_days 22 = .ok (.if_icmp .le 5, 3) := by decide +kernel
theorem dX12_days_25 : decode cX12_days 25 = .ok (.iconst (-1), 1) := by decide +kernel
theorem dX12_days_26 : decode cX12_days 26 = .ok (.ireturn, 1) := by decide +kernel
theorem dX12_days_27 : decode cX12_days 27 = .ok (.iconst 0, 1) := by decide +kernel
theorem dX12_days_28 : decode cX12_days 28 = .ok (.istore_n 2, 1) := by decide +kernel
theorem dX12_days_29 : decode cX12_days 29 = .ok (.iconst 0, 1) := by decide +kernel
theorem dX12_days_30 : decode cX12_days 30 = .ok (.istore_n 3, 1) := by decide +kernel
theorem dX12_days_31 : decode cX12_days 31 = .ok (.iload_n 3, 1) := by decide +kernel
theorem dX12_days_32 : decode cX12_days 32 = .ok (.iload_n 1, 1) := by decide +kernel
theorem dX12_days_33 : decode cX12_days 33 = .ok (.if_icmp .ge 120, 3) := by decide +kernel
theorem dX12_days_36 : decode cX12_days 36 = .ok (.aload_n 0, 1) := by decide +kernel
theorem dX12_days_37 : decode cX12_days 37 = .ok (.getfield 70, 3) := by decide +kernel
theorem dX12_days_40 : decode cX12_days 40 = .ok (.bipush 8, 2) := by decide +kernel
theorem dX12_days_42 : decode cX12_days 42 = .ok (.if_icmp .ne 48, 3) := by decide +kernel
theorem dX12_days_45 : decode cX12_days 45 = .ok (.iconst 0, 1) := by decide +kernel
theorem dX12_days_46 : decode cX12_days 46 = .ok (.istore 4, 2) := by decide +kernel
theorem dX12_days_48 : decode cX12_days 48 = .ok (.iload 4, 2) := by decide +kernel
theorem dX12_days_50 : decode cX12_days 50 = .ok (.sipush 1260, 3) := by decide +kernel
theorem dX12_days_53 : decode cX12_days 53 = .ok (.if_icmp .ge 27, 3) := by decide +kernel
theorem dX12_days_56 : decode cX12_days 56 = .ok (.aload_n 0, 1) := by decide +kernel
theorem dX12_days_57 : decode cX12_days 57 = .ok (.getfield 16, 3) := by decide +kernel
theorem dX12_days_60 : decode cX12_days 60 = .ok (.iload 4, 2) := by decide +kernel
theorem dX12_days_62 : decode cX12_days 62 = .ok (.aload_n 0, 1) := by decide +kernel
theorem dX12_days_63 : decode cX12_days 63 = .ok (.getfield 16, 3) := by decide +kernel
theorem dX12_days_66 : decode cX12_days 66 = .ok (.iload 4, 2) := by decide +kernel
theorem dX12_days_68 : decode cX12_days 68 = .ok (.sipush 180, 3) := by decide +kernel
theorem dX12_days_71 : decode cX12_days 71 = .ok (.iadd, 1) := by decide +kernel
theorem dX12_days_72 : decode cX12_days 72 = .ok (.iaload, 1) := by decide +kernel
theorem dX12_days_73 : decode cX12_days 73 = .ok (.iastore, 1) := by decide +kernel
theorem dX12_days_74 : decode cX12_days 74 = .ok (.iinc 4 1, 3) := by decide +kernel
theorem dX12_days_77 : decode cX12_days 77 = .ok (.goto (-29), 3) := by decide +kernel
theorem dX12_days_80 : decode cX12_days 80 = .ok (.aload_n 0, 1) := by decide +kernel
theorem dX12_days_81 : decode cX12_days 81 = .ok (.dup, 1) := by decide +kernel
theorem dX12_days_82 : decode cX12_days 82 = .ok (.getfield 70, 3) := by decide +kernel
theorem dX12_days_85 : decode cX12_days 85 = .ok (.iconst 1, 1) := by decide +kernel
theorem dX12_days_86 : decode cX12_days 86 = .ok (.isub, 1) := by decide +kernel
theorem dX12_days_87 : decode cX12_days 87 = .ok (.putfield 70, 3) := by decide +kernel
theorem dX12_days_90 : decode cX12_days 90 = .ok (.iconst 0, 1) := by decide +kernel
theorem dX12_days_91 : decode cX12_days 91 = .ok (.istore 4, 2) := by decide +kernel
theorem dX12_days_93 : decode cX12_days 93 = .ok (.iload 4, 2) := by decide +kernel
theorem dX12_days_95 : decode cX12_days 95 = .ok (.sipush 180, 3) := by decide +kernel
theorem dX12_days_98 : decode cX12_days 98 = .ok (.if_icmp .ge 32, 3) := by decide +kernel
theorem dX12_days_101 : decode cX12_days 101 = .ok (.aload_n 0, 1) := by decide +kernel
theorem dX12_days_102 : decode cX12_days 102 = .ok (.getfield 16, 3) := by decide +kernel
theorem dX12_days_105 : decode cX12_days 105 = .ok (.sipush 180, 3) := by decide +kernel
theorem dX12_days_108 : decode cX12_days 108 = .ok (.aload_n 0, 1) := by decide +kernel
theorem dX12_days_109 : decode cX12_days 109 = .ok (.getfield 70, 3) := by decide +kernel
theorem dX12_days_112 : decode cX12_days 112 = .ok (.imul, 1) := by decide +kernel
theorem dX12_days_113 : decode cX12_days 113 = .ok (.iload 4, 2) := by decide +kernel
theorem dX12_days_115 : decode cX12_days 115 = .ok (.iadd, 1) := by decide +kernel
theorem dX12_days_116 : decode cX12_days 116 = .ok (.aload_n 0, 1) := by decide +kernel
theorem dX12_days_117 : decode cX12_days 117 = .ok (.getfield 7, 3) := by decide +kernel
theorem dX12_days_120 : decode cX12_days 120 = .ok (.iload 4, 2) := by decide +kernel
theorem dX12_days_122 : decode cX12_days 122 = .ok (.iaload, 1) := by decide +kernel
theorem dX12_days_123 : decode cX12_days 123 = .ok (.iastore, 1) := by decide +kernel
theorem dX12_days_124 : decode cX12_days 124 = .ok (.iinc 4 1, 3) := by decide +kernel
theorem dX12_days_127 : decode cX12_days 127 = .ok (.goto (-34), 3) := by decide +kernel
theorem dX12_days_130 : decode cX12_days 130 = .ok (.aload_n 0, 1) := by decide +kernel
theorem dX12_days_131 : decode cX12_days 131 = .ok (.dup, 1) := by decide +kernel
theorem dX12_days_132 : decode cX12_days 132 = .ok (.getfield 70, 3) := by decide +kernel
theorem dX12_days_135 : decode cX12_days 135 = .ok (.iconst 1, 1) := by decide +kernel
theorem dX12_days_136 : decode cX12_days 136 = .ok (.iadd, 1) := by decide +kernel
theorem dX12_days_137 : decode cX12_days 137 = .ok (.putfield 70, 3) := by decide +kernel
theorem dX12_days_140 : decode cX12_days 140 = .ok (.iload_n 2, 1) := by decide +kernel
theorem dX12_days_141 : decode cX12_days 141 = .ok (.aload_n 0, 1) := by decide +kernel
theorem dX12_days_142 : decode cX12_days 142 = .ok (.invokevirtual 256, 3) := by decide +kernel
theorem dX12_days_145 : decode cX12_days 145 = .ok (.iadd, 1) := by decide +kernel
theorem dX12_days_146 : decode cX12_days 146 = .ok (.istore_n 2, 1) := by decide +kernel
theorem dX12_days_147 : decode cX12_days 147 = .ok (.iinc 3 1, 3) := by decide +kernel
theorem dX12_days_150 : decode cX12_days 150 = .ok (.goto (-119), 3) := by decide +kernel
theorem dX12_days_153 : decode cX12_days 153 = .ok (.iload_n 2, 1) := by decide +kernel
theorem dX12_days_154 : decode cX12_days 154 = .ok (.ireturn, 1) := by decide +kernel
theorem dX12_undo_0 : decode cX12_undo 0 = .ok (.aload_n 0, 1) := by decide +kernel
theorem dX12_undo_1 : decode cX12_undo 1 = .ok (.getfield 70, 3) := by decide +kernel
theorem dX12_undo_4 : decode cX12_undo 4 = .ok (.ifCond .ne 5, 3) := by decide +kernel
theorem dX12_undo_7 : decode cX12_undo 7 = .ok (.iconst 0, 1) := by decide +kernel
theorem dX12_undo_8 : decode cX12_undo 8 = .ok (.ireturn, 1) := by decide +kernel
theorem dX12_undo_9 : decode cX12_undo 9 = .ok (.aload_n 0, 1) := by decide +kernel
theorem dX12_undo_10 : decode cX12_undo 10 = .ok (.dup, 1) := by decide +kernel
theorem dX12_undo_11 : decode cX12_undo 11 = .ok (.getfield 70, 3) := by decide +kernel
theorem dX12_undo_14 : decode cX12_undo 14 = .ok (.iconst 1, 1) := by decide +kernel
theorem dX12_undo_15 : decode cX12_undo 15 = .ok (.isub, 1) := by decide +kernel
theorem dX12_undo_16 : decode cX12_undo 16 = .ok (.putfield 70, 3) := by decide +kernel
theorem dX12_undo_19 : decode cX12_undo 19 = .ok (.iconst 0, 1) := by decide +kernel
theorem dX12_undo_20 : decode cX12_undo 20 = .ok (.istore_n 1, 1) := by decide +kernel
theorem dX12_undo_21 : decode cX12_undo 21 = .ok (.iload_n 1, 1) := by decide +kernel
theorem dX12_undo_22 : decode cX12_undo 22 = .ok (.sipush 180, 3) := by decide +kernel
theorem dX12_undo_25 : decode cX12_undo 25 = .ok (.if_icmp .ge 30, 3) := by decide +kernel
theorem dX12_undo_28 : decode cX12_undo 28 = .ok (.aload_n 0, 1) := by decide +kernel
theorem dX12_undo_29 : decode cX12_undo 29 = .ok (.getfield 7, 3) := by decide +kernel
theorem dX12_undo_32 : decode cX12_undo 32 = .ok (.iload_n 1, 1) := by decide +kernel
theorem dX12_undo_33 : decode cX12_undo 33 = .ok (.aload_n 0, 1) := by decide +kernel
theorem dX12_undo_34 : decode cX12_undo 34 = .ok (.getfield 16, 3) := by decide +kernel
theorem dX12_undo_37 : decode cX12_undo 37 = .ok (.sipush 180, 3) := by decide +kernel
theorem dX12_undo_40 : decode cX12_undo 40 = .ok (.aload_n 0, 1) := by decide +kernel
theorem dX12_undo_41 : decode cX12_undo 41 = .ok (.getfield 70, 3) := by decide +kernel
theorem dX12_undo_44 : decode cX12_undo 44 = .ok (.imul, 1) := by decide +kernel
theorem dX12_undo_45 : decode cX12_undo 45 = .ok (.iload_n 1, 1) := by decide +kernel
theorem dX12_undo_46 : decode cX12_undo 46 = .ok (.iadd, 1) := by decide +kernel
theorem dX12_undo_47 : decode cX12_undo 47 = .ok (.iaload, 1) := by decide +kernel
theorem dX12_undo_48 : decode cX12_undo 48 = .ok (.iastore, 1) := by decide +kernel
theorem dX12_undo_49 : decode cX12_undo 49 = .ok (.iinc 1 1, 3) := by decide +kernel
theorem dX12_undo_52 : decode cX12_undo 52 = .ok (.goto (-31), 3) := by decide +kernel
theorem dX12_undo_55 : decode cX12_undo 55 = .ok (.iconst 1, 1) := by decide +kernel
theorem dX12_undo_56 : decode cX12_undo 56 = .ok (.ireturn, 1) := by decide +kernel
theorem dX12_of_0 : decode cX12_of 0 = .ok (.aload_n 0, 1) := by decide +kernel
theorem dX12_of_1 : decode cX12_of 1 = .ok (.iload_n 1, 1) := by decide +kernel
theorem dX12_of_2 : decode cX12_of 2 = .ok (.invokevirtual 216, 3) := by decide +kernel
theorem dX12_of_5 : decode cX12_of 5 = .ok (.ifCond .ne 7, 3) := by decide +kernel
theorem dX12_of_8 : decode cX12_of 8 = .ok (.ldc_w 259, 3) := by decide +kernel
theorem dX12_of_11 : decode cX12_of 11 = .ok (.ireturn, 1) := by decide +kernel
theorem dX12_of_12 : decode cX12_of 12 = .ok (.iload_n 2, 1) := by decide +kernel
theorem dX12_of_13 : decode cX12_of 13 = .ok (.iconst 0, 1) := by decide +kernel
theorem dX12_of_14 : decode cX12_of 14 = .ok (.bipush 8, 2) := by decide +kernel
theorem dX12_of_16 : decode cX12_of 16 = .ok (.invokestatic 66, 3) := by decide +kernel
theorem dX12_of_19 : decode cX12_of 19 = .ok (.ifCond .eq 10, 3) := by decide +kernel
theorem dX12_of_22 : decode cX12_of 22 = .ok (.aload_n 0, 1) := by decide +kernel
theorem dX12_of_23 : decode cX12_of 23 = .ok (.iload_n 1, 1) := by decide +kernel
theorem dX12_of_24 : decode cX12_of 24 = .ok (.iload_n 2, 1) := by decide +kernel
theorem dX12_of_25 : decode cX12_of 25 = .ok (.invokevirtual 220, 3) := by decide +kernel
theorem dX12_of_28 : decode cX12_of 28 = .ok (.ireturn, 1) := by decide +kernel
theorem dX12_of_29 : decode cX12_of 29 = .ok (.iload_n 2, 1) := by decide +kernel
theorem dX12_of_30 : decode cX12_of 30 = .ok (.bipush 9, 2) := by decide +kernel
