theorem dX12_law_146 : decode cX12_law 146 = .ok (.aload_n 0, 1) := by decide +kernel
theorem dX12_law_147 : decode cX12_law 147 = .ok (.getfield 54, 3) := by decide +kernel
theorem dX12_law_150 : decode cX12_law 150 = .ok (.iload_n 3, 1) := by decide +kernel
theorem dX12_law_151 : decode cX12_law 151 = .ok (.aload_n 0, 1) := by decide +kernel
theorem dX12_law_152 : decode cX12_law 152 = .ok (.getfield 39, 3) := by decide +kernel
theorem dX12_law_155 : decode cX12_law 155 = .ok (.iload_n 3, 1) := by decide +kernel
theorem dX12_law_156 : decode cX12_law 156 = .ok (.iaload, 1) := by decide +kernel
theorem dX12_law_157 : decode cX12_law 157 = .ok (.iastore, 1) := by decide +kernel
theorem dX12_law_158 : decode cX12_law 158 = .ok (.aload_n 0, 1) := by decide +kernel
theorem dX12_law_159 : decode cX12_law 159 = .ok (.getfield 57, 3) := by decide +kernel
theorem dX12_law_162 : decode cX12_law 162 = .ok (.iload_n 3, 1) := by decide +kernel
theorem dX12_law_163 : decode cX12_law 163 = .ok (.aload_n 0, 1) := by decide +kernel
theorem dX12_law_164 : decode cX12_law 164 = .ok (.getfield 42, 3) := by decide +kernel
theorem dX12_law_167 : decode cX12_law 167 = .ok (.iload_n 3, 1) := by decide +kernel
theorem dX12_law_168 : decode cX12_law 168 = .ok (.iaload, 1) := by decide +kernel
theorem dX12_law_169 : decode cX12_law 169 = .ok (.iastore, 1) := by decide +kernel
theorem dX12_law_170 : decode cX12_law 170 = .ok (.aload_n 0, 1) := by decide +kernel
theorem dX12_law_171 : decode cX12_law 171 = .ok (.getfield 60, 3) := by decide +kernel
theorem dX12_law_174 : decode cX12_law 174 = .ok (.iload_n 3, 1) := by decide +kernel
theorem dX12_law_175 : decode cX12_law 175 = .ok (.aload_n 0, 1) := by decide +kernel
theorem dX12_law_176 : decode cX12_law 176 = .ok (.getfield 45, 3) := by decide +kernel
theorem dX12_law_179 : decode cX12_law 179 = .ok (.iload_n 3, 1) := by decide +kernel
theorem dX12_law_180 : decode cX12_law 180 = .ok (.iaload, 1) := by decide +kernel
theorem dX12_law_181 : decode cX12_law 181 = .ok (.iastore, 1) := by decide +kernel
theorem dX12_law_182 : decode cX12_law 182 = .ok (.aload_n 0, 1) := by decide +kernel
theorem dX12_law_183 : decode cX12_law 183 = .ok (.getfield 63, 3) := by decide +kernel
theorem dX12_law_186 : decode cX12_law 186 = .ok (.iload_n 3, 1) := by decide +kernel
theorem dX12_law_187 : decode cX12_law 187 = .ok (.aload_n 0, 1) := by decide +kernel
theorem dX12_law_188 : decode cX12_law 188 = .ok (.getfield 48, 3) := by decide +kernel
theorem dX12_law_191 : decode cX12_law 191 = .ok (.iload_n 3, 1) := by decide +kernel
theorem dX12_law_192 : decode cX12_law 192 = .ok (.iaload, 1) := by decide +kernel
theorem dX12_law_193 : decode cX12_law 193 = .ok (.iastore, 1) := by decide +kernel
theorem dX12_law_194 : decode cX12_law 194 = .ok (.iinc 3 1, 3) := by decide +kernel
theorem dX12_law_197 : decode cX12_law 197 = .ok (.goto (-59), 3) := by decide +kernel
theorem dX12_law_200 : decode cX12_law 200 = .ok (.aload_n 0, 1) := by decide +kernel
theorem dX12_law_201 : decode cX12_law 201 = .ok (.getfield 287, 3) := by decide +kernel
theorem dX12_law_204 : decode cX12_law 204 = .ok (.ireturn, 1) := by decide +kernel
theorem dX12_reckon_0 : decode cX12_reckon 0 = .ok (.iload_n 0, 1) := by decide +kernel
theorem dX12_reckon_1 : decode cX12_reckon 1 = .ok (.tableswitch 85 2 8 #[43, 47, 51, 55, 59, 63, 74], 43) := by decide +kernel
theorem dX12_reckon_44 : decode cX12_reckon 44 = .ok (.iload_n 1, 1) := by decide +kernel
theorem dX12_reckon_45 : decode cX12_reckon 45 = .ok (.iload_n 2, 1) := by decide +kernel
theorem dX12_reckon_46 : decode cX12_reckon 46 = .ok (.iadd, 1) := by decide +kernel
theorem dX12_reckon_47 : decode cX12_reckon 47 = .ok (.ireturn, 1) := by decide +kernel
theorem dX12_reckon_48 : decode cX12_reckon 48 = .ok (.iload_n 1, 1) := by decide +kernel
theorem dX12_reckon_49 : decode cX12_reckon 49 = .ok (.iload_n 2, 1) := by decide +kernel
theorem dX12_reckon_50 : decode cX12_reckon 50 = .ok (.isub, 1) := by decide +kernel
theorem dX12_reckon_51 : decode cX12_reckon 51 = .ok (.ireturn, 1) := by decide +kernel
theorem dX12_reckon_52 : decode cX12_reckon 52 = .ok (.iload_n 1, 1) := by decide +kernel
theorem dX12_reckon_53 : decode cX12_reckon 53 = .ok (.iload_n 2, 1) := by decide +kernel
theorem dX12_reckon_54 : decode cX12_reckon 54 = .ok (.imul, 1) := by decide +kernel
theorem dX12_reckon_55 : decode cX12_reckon 55 = .ok (.ireturn, 1) := by decide +kernel
theorem dX12_reckon_56 : decode cX12_reckon 56 = .ok (.iload_n 1, 1) := by decide +kernel
theorem dX12_reckon_57 : decode cX12_reckon 57 = .ok (.iload_n 2, 1) := by decide +kernel
theorem dX12_reckon_58 : decode cX12_reckon 58 = .ok (.idiv, 1) := by decide +kernel
theorem dX12_reckon_59 : decode cX12_reckon 59 = .ok (.ireturn, 1) := by decide +kernel
theorem dX12_reckon_60 : decode cX12_reckon 60 = .ok (.iload_n 1, 1) := by decide +kernel
theorem dX12_reckon_61 : decode cX12_reckon 61 = .ok (.iload_n 2, 1) := by decide +kernel
theorem dX12_reckon_62 : decode cX12_reckon 62 = .ok (.irem, 1) := by decide +kernel
theorem dX12_reckon_63 : decode cX12_reckon 63 = .ok (.ireturn, 1) := by decide +kernel
theorem dX12_reckon_64 : decode cX12_reckon 64 = .ok (.iload_n 1, 1) := by decide +kernel
theorem dX12_reckon_65 : decode cX12_reckon 65 = .ok (.iload_n 2, 1) := by decide +kernel
theorem dX12_reckon_66 : decode cX12_reckon 66 = .ok (.if_icmp .ge 7, 3) := by decide +kernel
theorem dX12_reckon_69 : decode cX12_reckon 69 = .ok (.iconst 1, 1) := by decide +kernel
theorem dX12_reckon_70 : decode cX12_reckon 70 = .ok (.goto 4, 3) := by decide +kernel
theorem dX12_reckon_73 : decode cX12_reckon 73 = .ok (.iconst 0, 1) := by decide +kernel
theorem dX12_reckon_74 : decode cX12_reckon 74 = .ok (.ireturn, 1) := by decide +kernel
theorem dX12_reckon_75 : decode cX12_reckon 75 = .ok (.iload_n 1, 1) := by decide +kernel
theorem dX12_reckon_76 : decode cX12_reckon 76 = .ok (.iload_n 2, 1) := by decide +kernel
theorem dX12_reckon_77 : decode cX12_reckon 77 = .ok (.if_icmp .le 7, 3) := by decide +kernel
theorem dX12_reckon_80 : decode cX12_reckon 80 = .ok (.iconst 1, 1) := by decide +kernel
theorem dX12_reckon_81 : decode cX12_reckon 81 = .ok (.goto 4, 3) := by decide +kernel
theorem dX12_reckon_84 : decode cX12_reckon 84 = .ok (.iconst 0, 1) := by decide +kernel
theorem dX12_reckon_85 : decode cX12_reckon 85 = .ok (.ireturn, 1) := by decide +kernel
theorem dX12_reckon_86 : decode cX12_reckon 86 = .ok (.iload_n 1, 1) := by decide +kernel
theorem dX12_reckon_87 : decode cX12_reckon 87 = .ok (.iload_n 2, 1) := by decide +kernel
theorem dX12_reckon_88 : decode cX12_reckon 88 = .ok (.if_icmp .ne 7, 3) := by decide +kernel
theorem dX12_reckon_91 : decode cX12_reckon 91 = .ok (.iconst 1, 1) := by decide +kernel
theorem dX12_reckon_92 : decode cX12_reckon 92 = .ok (.goto 4, 3) := by decide +kernel
theorem dX12_reckon_95 : decode cX12_reckon 95 = .ok (.iconst 0, 1) := by decide +kernel
theorem dX12_reckon_96 : decode cX12_reckon 96 = .ok (.ireturn, 1) := by decide +kernel
theorem dX12_comesTo_0 : decode cX12_comesTo 0 = .ok (.iconst 0, 1) := by decide +kernel
theorem dX12_comesTo_1 : decode cX12_comesTo 1 = .ok (.istore_n 3, 1) := by decide +kernel
theorem dX12_comesTo_2 : decode cX12_comesTo 2 = .ok (.sipush 220, 3) := by decide +kernel
theorem dX12_comesTo_5 : decode cX12_comesTo 5 = .ok (.iload_n 1, 1) := by decide +kernel
theorem dX12_comesTo_6 : decode cX12_comesTo 6 = .ok (.sipush 220, 3) := by decide +kernel
theorem dX12_comesTo_9 : decode cX12_comesTo 9 = .ok (.idiv, 1) := by decide +kernel
theorem dX12_comesTo_10 : decode cX12_comesTo 10 = .ok (.imul, 1) := by decide +kernel
theorem dX12_comesTo_11 : decode cX12_comesTo 11 = .ok (.istore 4, 2) := by decide +kernel
theorem dX12_comesTo_13 : decode cX12_comesTo 13 = .ok (.iload_n 1, 1) := by decide +kernel
theorem dX12_comesTo_14 : decode cX12_comesTo 14 = .ok (.istore 5, 2) := by decide +kernel
theorem dX12_comesTo_16 : decode cX12_comesTo 16 = .ok (.iload 5, 2) := by decide +kernel
theorem dX12_comesTo_18 : decode cX12_comesTo 18 = .ok (.iload_n 2, 1) := by decide +kernel
theorem dX12_comesTo_19 : decode cX12_comesTo 19 = .ok (.if_icmp .ge 214, 3) := by decide +kernel
theorem dX12_comesTo_22 : decode cX12_comesTo 22 = .ok (.aload_n 0, 1) := by decide +kernel
theorem dX12_comesTo_23 : decode cX12_comesTo 23 = .ok (.getfield 51, 3) := by decide +kernel
theorem dX12_comesTo_26 : decode cX12_comesTo 26 = .ok (.iload 5, 2) := by decide +kernel
theorem dX12_comesTo_28 : decode cX12_comesTo 28 = .ok (.iaload, 1) := by decide +kernel
theorem dX12_comesTo_29 : decode cX12_comesTo 29 = .ok (.ldc 236, 2) := by decide +kernel
theorem dX12_comesTo_31 : decode cX12_comesTo 31 = .ok (.idiv, 1) := by decide +kernel
theorem dX12_comesTo_32 : decode cX12_comesTo 32 = .ok (.istore 6, 2) := by decide +kernel
theorem dX12_comesTo_34 : decode cX12_comesTo 34 = .ok (.aload_n 0, 1) := by decide +kernel
theorem dX12_comesTo_35 : decode cX12_comesTo 35 = .ok (.getfield 51, 3) := by decide +kernel
theorem dX12_comesTo_38 : decode cX12_comesTo 38 = .ok (.iload 5, 2) := by decide +kernel
theorem dX12_comesTo_40 : decode cX12_comesTo 40 = .ok (.iaload, 1) := by decide +kernel
theorem dX12_comesTo_41 : decode cX12_comesTo 41 = .ok (.ldc 236, 2) := by decide +kernel
theorem dX12_comesTo_43 : decode cX12_comesTo 43 = .ok (.irem, 1) := by decide +kernel
theorem dX12_comesTo_44 : decode cX12_comesTo 44 = .ok (.istore 7, 2) := by decide +kernel
theorem dX12_comesTo_46 : decode cX12_comesTo 46 = .ok (.iload 5, 2) := by decide +kernel
theorem dX12_comesTo_48 : decode cX12_comesTo 48 = .ok (.iconst 1, 1) := by decide +kernel
theorem dX12_comesTo_49 : decode cX12_comesTo 49 = .ok (.iadd, 1) := by decide +kernel
theorem dX12_comesTo_50 : decode cX12_comesTo 50 = .ok (.istore 5, 2) := by decide +kernel
theorem dX12_comesTo_52 : decode cX12_comesTo 52 = .ok (.iload 6, 2) := by decide +kernel
theorem dX12_comesTo_54 : decode cX12_comesTo 54 = .ok (.ifCond .eq 9, 3) := by decide +kernel
theorem dX12_comesTo_57 : decode cX12_comesTo 57 = .ok (.iload 6, 2) := by decide +kernel
theorem dX12_comesTo_59 : decode cX12_comesTo 59 = .ok (.iconst 1, 1) := by decide +kernel
theorem dX12_comesTo_60 : decode cX12_comesTo 60 = .ok (.if_icmp .ne 33, 3) := by decide +kernel
theorem dX12_comesTo_63 : decode cX12_comesTo 63 = .ok (.aload_n 0, 1) := by decide +kernel
theorem dX12_comesTo_64 : decode cX12_comesTo 64 = .ok (.getfield 66, 3) := by decide +kernel
theorem dX12_comesTo_67 : decode cX12_comesTo 67 = .ok (.iload_n 3, 1) := by decide +kernel
theorem dX12_comesTo_68 : decode cX12_comesTo 68 = .ok (.iload 6, 2) := by decide +kernel
theorem dX12_comesTo_70 : decode cX12_comesTo 70 = .ok (.ifCond .ne 8, 3) := by decide +kernel
theorem dX12_comesTo_73 : decode cX12_comesTo 73 = .ok (.iload 7, 2) := by decide +kernel
theorem dX12_comesTo_75 : decode cX12_comesTo 75 = .ok (.goto 10, 3) := by decide +kernel
theorem dX12_comesTo_78 : decode cX12_comesTo 78 = .ok (.aload_n 0, 1) := by decide +kernel
theorem dX12_comesTo_79 : decode cX12_comesTo 79 = .ok (.getfield 69, 3) := by decide +kernel
theorem dX12_comesTo_82 : decode cX12_comesTo 82 = .ok (.iload 7, 2) := by decide +kernel
theorem dX12_comesTo_84 : decode cX12_comesTo 84 = .ok (.iaload, 1) := by decide +kernel
theorem dX12_comesTo_85 : decode cX12_comesTo 85 = .ok (.iastore, 1) := by decide +kernel
theorem dX12_comesTo_86 : decode cX12_comesTo 86 = .ok (.iload_n 3, 1) := by decide +kernel
theorem dX12_comesTo_87 : decode cX12_comesTo 87 = .ok (.iconst 1, 1) := by decide +kernel
theorem dX12_comesTo_88 : decode cX12_comesTo 88 = .ok (.iadd, 1) := by decide +kernel
theorem dX12_comesTo_89 : decode cX12_comesTo 89 = .ok (.istore_n 3, 1) := by decide +kernel
theorem dX12_comesTo_90 : decode cX12_comesTo 90 = .ok (.goto 140, 3) := by decide +kernel
theorem dX12_comesTo_93 : decode cX12_comesTo 93 = .ok (.iload 6, 2) := by decide +kernel
theorem dX12_comesTo_95 : decode cX12_comesTo 95 = .ok (.bipush 10, 2) := by decide +kernel
theorem dX12_comesTo_97 : decode cX12_comesTo 97 = .ok (.if_icmp .ne 24, 3) := by decide +kernel
theorem dX12_comesTo_100 : decode cX12_comesTo 100 = .ok (.aload_n 0, 1) := by decide +kernel
theorem dX12_comesTo_101 : decode cX12_comesTo 101 = .ok (.getfield 66, 3) := by decide +kernel
theorem dX12_comesTo_104 : decode cX12_comesTo 104 = .ok (.iload_n 3, 1) := by decide +kernel
theorem dX12_comesTo_105 : decode cX12_comesTo 105 = .ok (.iconst 1, 1) := by decide +kernel
theorem dX12_comesTo_106 : decode cX12_comesTo 106 = .ok (.isub, 1) := by decide +kernel
theorem dX12_comesTo_107 : decode cX12_comesTo 107 = .ok (.iconst 1, 1) := by decide +kernel
theorem dX12_comesTo_108 : decode cX12_comesTo 108 = .ok (.aload_n 0, 1) := by decide +kernel
theorem dX12_comesTo_109 : decode cX12_comesTo 109 = .ok (.getfield 66, 3) := by decide +kernel
theorem dX12_comesTo_112 : decode cX12_comesTo 112 = .ok (.iload_n 3, 1) := by decide +kernel
theorem dX12_comesTo_113 : decode cX12_comesTo 113 = .ok (.iconst 1, 1) := by decide +kernel
theorem dX12_comesTo_114 : decode cX12_comesTo 114 = .ok (.isub, 1) := by decide +kernel
theorem dX12_comesTo_115 : decode cX12_comesTo 115 = .ok (.iaload, 1) := by decide +kernel
theorem dX12_comesTo_116 : decode cX12_comesTo 116 = .ok (.isub, 1) := by decide +kernel
theorem dX12_comesTo_117 : decode cX12_comesTo 117 = .ok (.iastore, 1) := by decide +kernel
theorem dX12_comesTo_118 : decode cX12_comesTo 118 = .ok (.goto 112, 3) := by decide +kernel
theorem dX12_comesTo_121 : decode cX12_comesTo 121 = .ok (.iload 6, 2) := by decide +kernel
theorem dX12_comesTo_123 : decode cX12_comesTo 123 = .ok (.bipush 11, 2) := by decide +kernel
theorem dX12_comesTo_125 : decode cX12_comesTo 125 = .ok (.if_icmp .eq 10, 3) := by decide +kernel
theorem dX12_comesTo_128 : decode cX12_comesTo 128 = .ok (.iload 6, 2) := by decide +kernel
theorem dX12_comesTo_130 : decode cX12_comesTo 130 = .ok (.bipush 12, 2) := by decide +kernel
theorem dX12_comesTo_132 : decode cX12_comesTo 132 = .ok (.if_icmp .ne 43, 3) := by decide +kernel
theorem dX12_comesTo_135 : decode cX12_comesTo 135 = .ok (.aload_n 0, 1) := by decide +kernel
theorem dX12_comesTo_136 : decode cX12_comesTo 136 = .ok (.getfield 66, 3) := by decide +kernel
theorem dX12_comesTo_139 : decode cX12_comesTo 139 = .ok (.iload_n 3, 1) := by decide +kernel
theorem dX12_comesTo_140 : decode cX12_comesTo 140 = .ok (.iconst 1, 1) := by decide +kernel
theorem dX12_comesTo_141 : decode cX12_comesTo 141 = .ok (.isub, 1) := by decide +kernel
theorem dX12_comesTo_142 : decode cX12_comesTo 142 = .ok (.iaload, 1) := by decide +kernel
theorem dX12_comesTo_143 : decode cX12_comesTo 143 = .ok (.iload 6, 2) := by decide +kernel
theorem dX12_comesTo_145 : decode cX12_comesTo 145 = .ok (.bipush 12, 2) := by decide +kernel
theorem dX12_comesTo_147 : decode cX12_comesTo 147 = .ok (.if_icmp .ne 7, 3) := by decide +kernel
theorem dX12_comesTo_150 : decode cX12_comesTo 150 = .ok (.iconst 1, 1) := by decide +kernel
theorem dX12_comesTo_151 : decode cX12_comesTo 151 = .ok (.goto 4, 3) := by decide +kernel
theorem dX12_comesTo_154 : decode cX12_comesTo 154 = .ok (.iconst 0, 1) := by decide +kernel
theorem dX12_comesTo_155 : decode cX12_comesTo 155 = .ok (.if_icmp .ne 13, 3) := by decide +kernel
theorem dX12_comesTo_158 : decode cX12_comesTo 158 = .ok (.iload 4, 2) := by decide +kernel
theorem dX12_comesTo_160 : decode cX12_comesTo 160 = .ok (.iload 7, 2) := by decide +kernel
theorem dX12_comesTo_162 : decode cX12_comesTo 162 = .ok (.iadd, 1) := by decide +kernel
theorem dX12_comesTo_163 : decode cX12_comesTo 163 = .ok (.istore 5, 2) := by decide +kernel
theorem dX12_comesTo_165 : decode cX12_comesTo 165 = .ok (.goto 65, 3) := by decide +kernel
theorem dX12_comesTo_168 : decode cX12_comesTo 168 = .ok (.iload_n 3, 1) := by decide +kernel
theorem dX12_comesTo_169 : decode cX12_comesTo 169 = .ok (.iconst 1, 1) := by decide +kernel
theorem dX12_comesTo_170 : decode cX12_comesTo 170 = .ok (.isub, 1) := by decide +kernel
theorem dX12_comesTo_171 : decode cX12_comesTo 171 = .ok (.istore_n 3, 1) := by decide +kernel
theorem dX12_comesTo_172 : decode cX12_comesTo 172 = .ok (.goto 58, 3) := by decide +kernel
theorem dX12_comesTo_175 : decode cX12_comesTo 175 = .ok (.iload_n 3, 1) := by decide +kernel
theorem dX12_comesTo_176 : decode cX12_comesTo 176 = .ok (.iconst 1, 1) := by decide +kernel
theorem dX12_comesTo_177 : decode cX12_comesTo 177 = .ok (.isub, 1) := by decide +kernel
theorem dX12_comesTo_178 : decode cX12_comesTo 178 = .ok (.istore_n 3, 1) := by decide +kernel
theorem dX12_comesTo_179 : decode cX12_comesTo 179 = .ok (.iload 6, 2) := by decide +kernel
theorem dX12_comesTo_181 : decode cX12_comesTo 181 = .ok (.iconst 5, 1) := by decide +kernel
theorem dX12_comesTo_182 : decode cX12_comesTo 182 = .ok (.if_icmp .eq 10, 3) := by decide +kernel
theorem dX12_comesTo_185 : decode cX12_comesTo 185 = .ok (.iload 6, 2) := by decide +kernel
theorem dX12_comesTo_187 : decode cX12_comesTo 187 = .ok (.bipush 6, 2) := by decide +kernel
theorem dX12_comesTo_189 : decode cX12_comesTo 189 = .ok (.if_icmp .ne 14, 3) := by decide +kernel
theorem dX12_comesTo_192 : decode cX12_comesTo 192 = .ok (.aload_n 0, 1) := by decide +kernel
theorem dX12_comesTo_193 : decode cX12_comesTo 193 = .ok (.getfield 66, 3) := by decide +kernel
theorem dX12_comesTo_196 : decode cX12_comesTo 196 = .ok (.iload_n 3, 1) := by decide +kernel
theorem dX12_comesTo_197 : decode cX12_comesTo 197 = .ok (.iaload, 1) := by decide +kernel
theorem dX12_comesTo_198 : decode cX12_comesTo 198 = .ok (.ifCond .ne 5, 3) := by decide +kernel
theorem dX12_comesTo_201 : decode cX12_comesTo 201 = .ok (.iconst 0, 1) := by decide +kernel
theorem dX12_comesTo_202 : decode cX12_comesTo 202 = .ok (.ireturn, 1) := by decide +kernel
theorem dX12_comesTo_203 : decode cX12_comesTo 203 = .ok (.aload_n 0, 1) := by decide +kernel
theorem dX12_comesTo_204 : decode cX12_comesTo 204 = .ok (.getfield 66, 3) := by decide +kernel
theorem dX12_comesTo_207 : decode cX12_comesTo 207 = .ok (.iload_n 3, 1) := by decide +kernel
theorem dX12_comesTo_208 : decode cX12_comesTo 208 = .ok (.iconst 1, 1) := by decide +kernel
theorem dX12_comesTo_209 : decode cX12_comesTo 209 = .ok (.isub, 1) := by decide +kernel
theorem dX12_comesTo_210 : decode cX12_comesTo 210 = .ok (.iload 6, 2) := by decide +kernel
theorem dX12_comesTo_212 : decode cX12_comesTo 212 = .ok (.aload_n 0, 1) := by decide +kernel
theorem dX12_comesTo_213 : decode cX12_comesTo 213 = .ok (.getfield 66, 3) := by decide +kernel
theorem dX12_comesTo_216 : decode cX12_comesTo 216 = .ok (.iload_n 3, 1) := by decide +kernel
theorem dX12_comesTo_217 : decode cX12_comesTo 217 = .ok (.iconst 1, 1) := by decide +kernel
theorem dX12_comesTo_218 : decode cX12_comesTo 218 = .ok (.isub, 1) := by decide +kernel
theorem dX12_comesTo_219 : decode cX12_comesTo 219 = .ok (.iaload, 1) := by decide +kernel
theorem dX12_comesTo_220 : decode cX12_comesTo 220 = .ok (.aload_n 0, 1) := by decide +kernel
theorem dX12_comesTo_221 : decode cX12_comesTo 221 = .ok (.getfield 66, 3) := by decide +kernel
theorem dX12_comesTo_224 : decode cX12_comesTo 224 = .ok (.iload_n 3, 1) := by decide +kernel
theorem dX12_comesTo_225 : decode cX12_comesTo 225 = .ok (.iaload, 1) := by decide +kernel
theorem dX12_comesTo_226 : decode cX12_comesTo 226 = .ok (.invokestatic 302, 3) := by decide +kernel
theorem dX12_comesTo_229 : decode cX12_comesTo 229 = .ok (.iastore, 1) := by decide +kernel
theorem dX12_comesTo_230 : decode cX12_comesTo 230 = .ok (.goto (-214), 3) := by decide +kernel
theorem dX12_comesTo_233 : decode cX12_comesTo 233 = .ok (.aload_n 0, 1) := by decide +kernel
theorem dX12_comesTo_234 : decode cX12_comesTo 234 = .ok (.getfield 66, 3) := by decide +kernel
theorem dX12_comesTo_237 : decode cX12_comesTo 237 = .ok (.iconst 0, 1) := by decide +kernel
theorem dX12_comesTo_238 : decode cX12_comesTo 238 = .ok (.iaload, 1) := by decide +kernel
theorem dX12_comesTo_239 : decode cX12_comesTo 239 = .ok (.ireturn, 1) := by decide +kernel
theorem dX12_byLaw_0 : decode cX12_byLaw 0 = .ok (.iconst 0, 1) := by decide +kernel
theorem dX12_byLaw_1 : decode cX12_byLaw 1 = .ok (.istore_n 3, 1) := by decide +kernel
theorem dX12_byLaw_2 : decode cX12_byLaw 2 = .ok (.iload_n 3, 1) := by decide +kernel
theorem dX12_byLaw_3 : decode cX12_byLaw 3 = .ok (.aload_n 0, 1) := by decide +kernel
theorem dX12_byLaw_4 : decode cX12_byLaw 4 = .ok (.getfield 299, 3) := by decide +kernel
theorem dX12_byLaw_7 : decode cX12_byLaw 7 = .ok (.if_icmp .ge 82, 3) := by decide +kernel
theorem dX12_byLaw_10 : decode cX12_byLaw 10 = .ok (.aload_n 0, 1) := by decide +kernel
theorem dX12_byLaw_11 : decode cX12_byLaw 11 = .ok (.getfield 54, 3) := by decide +kernel
theorem dX12_byLaw_14 : decode cX12_byLaw 14 = .ok (.iload_n 3, 1) := by decide +kernel
theorem dX12_byLaw_15 : decode cX12_byLaw 15 = .ok (.iaload, 1) := by decide +kernel
theorem dX12_byLaw_16 : decode cX12_byLaw 16 = .ok (.iload_n 1, 1) := by decide +kernel
theorem dX12_byLaw_17 : decode cX12_byLaw 17 = .ok (.if_icmp .ne 66, 3) := by decide +kernel
theorem dX12_byLaw_20 : decode cX12_byLaw 20 = .ok (.aload_n 0, 1) := by decide +kernel
theorem dX12_byLaw_21 : decode cX12_byLaw 21 = .ok (.aload_n 0, 1) := by decide +kernel
theorem dX12_byLaw_22 : decode cX12_byLaw 22 = .ok (.getfield 60, 3) := by decide +kernel
theorem dX12_byLaw_25 : decode cX12_byLaw 25 = .ok (.iload_n 3, 1) := by decide +kernel
theorem dX12_byLaw_26 : decode cX12_byLaw 26 = .ok (.iaload, 1) := by decide +kernel
theorem dX12_byLaw_27 : decode cX12_byLaw 27 = .ok (.aload_n 0, 1) := by decide +kernel
theorem dX12_byLaw_28 : decode cX12_byLaw 28 = .ok (.getfield 63, 3) := by decide +kernel
theorem dX12_byLaw_31 : decode cX12_byLaw 31 = .ok (.iload_n 3, 1) := by decide +kernel
theorem dX12_byLaw_32 : decode cX12_byLaw 32 = .ok (.iaload, 1) := by decide +kernel
theorem dX12_byLaw_33 : decode cX12_byLaw 33 = .ok (.invokevirtual 305, 3) := by decide +kernel
theorem dX12_byLaw_36 : decode cX12_byLaw 36 = .ok (.iconst 1, 1) := by decide +kernel
theorem dX12_byLaw_37 : decode cX12_byLaw 37 = .ok (.if_icmp .eq 6, 3) := by decide +kernel
theorem dX12_byLaw_40 : decode cX12_byLaw 40 = .ok (.goto 43, 3) := by decide +kernel
theorem dX12_byLaw_43 : decode cX12_byLaw 43 = .ok (.aload_n 0, 1) := by decide +kernel
theorem dX12_byLaw_44 : decode cX12_byLaw 44 = .ok (.aload_n 0, 1) := by decide +kernel
theorem dX12_byLaw_45 : decode cX12_byLaw 45 = .ok (.getfield 57, 3) := by decide +kernel
theorem dX12_byLaw_48 : decode cX12_byLaw 48 = .ok (.iload_n 3, 1) := by decide +kernel
theorem dX12_byLaw_49 : decode cX12_byLaw 49 = .ok (.iaload, 1) := by decide +kernel
theorem dX12_byLaw_50 : decode cX12_byLaw 50 = .ok (.aload_n 0, 1) := by decide +kernel
theorem dX12_byLaw_51 : decode cX12_byLaw 51 = .ok (.getfield 60, 3) := by decide +kernel
theorem dX12_byLaw_54 : decode cX12_byLaw 54 = .ok (.iload_n 3, 1) := by decide +kernel
theorem dX12_byLaw_55 : decode cX12_byLaw 55 = .ok (.iaload, 1) := by decide +kernel
theorem dX12_byLaw_56 : decode cX12_byLaw 56 = .ok (.invokevirtual 305, 3) := by decide +kernel
theorem dX12_byLaw_59 : decode cX12_byLaw 59 = .ok (.istore 4, 2) := by decide +kernel
theorem dX12_byLaw_61 : decode cX12_byLaw 61 = .ok (.iload 4, 2) := by decide +kernel
theorem dX12_byLaw_63 : decode cX12_byLaw 63 = .ok (.ifCond .ge 7, 3) := by decide +kernel
theorem dX12_byLaw_66 : decode cX12_byLaw 66 = .ok (.iconst 0, 1) := by decide +kernel
theorem dX12_byLaw_67 : decode cX12_byLaw 67 = .ok (.goto 15, 3) := by decide +kernel
theorem dX12_byLaw_70 : decode cX12_byLaw 70 = .ok (.iload 4, 2) := by decide +kernel
theorem dX12_byLaw_72 : decode cX12_byLaw 72 = .ok (.iload_n 2, 1) := by decide +kernel
theorem dX12_byLaw_73 : decode cX12_byLaw 73 = .ok (.if_icmp .le 7, 3) := by decide +kernel
theorem dX12_byLaw_76 : decode cX12_byLaw 76 = .ok (.iload_n 2, 1) := by decide +kernel
theorem dX12_byLaw_77 : decode cX12_byLaw 77 = .ok (.goto 5, 3) := by decide +kernel
theorem dX12_byLaw_80 : decode cX12_byLaw 80 = .ok (.iload 4, 2) := by decide +kernel
theorem dX12_byLaw_82 : decode cX12_byLaw 82 = .ok (.ireturn, 1) := by decide +kernel
theorem dX12_byLaw_83 : decode cX12_byLaw 83 = .ok (.iinc 3 1, 3) := by decide +kernel
theorem dX12_byLaw_86 : decode cX12_byLaw 86 = .ok (.goto (-84), 3) := by decide +kernel
theorem dX12_byLaw_89 : decode cX12_byLaw 89 = .ok (.iconst 0, 1) := by decide +kernel
theorem dX12_byLaw_90 : decode cX12_byLaw 90 = .ok (.ireturn, 1) := by decide +kernel
theorem dX12_feels_0 : decode cX12_feels 0 = .ok (.iconst 0, 1) := by decide +kernel
theorem dX12_feels_1 : decode cX12_feels 1 = .ok (.istore 4, 2) := by decide +kernel
theorem dX12_feels_3 : decode cX12_feels 3 = .ok (.iconst 0, 1) := by decide +kernel
theorem dX12_feels_4 : decode cX12_feels 4 = .ok (.istore 5, 2) := by decide +kernel
theorem dX12_feels_6 : decode cX12_feels 6 = .ok (.iload 5, 2) := by decide +kernel
theorem dX12_feels_8 : decode cX12_feels 8 = .ok (.bipush 8, 2) := by decide +kernel
theorem dX12_feels_10 : decode cX12_feels 10 = .ok (.if_icmp .ge 55, 3) := by decide +kernel
theorem dX12_feels_13 : decode cX12_feels 13 = .ok (.iload 4, 2) := by decide +kernel
theorem dX12_feels_15 : decode cX12_feels 15 = .ok (.aload_n 0, 1) := by decide +kernel
theorem dX12_feels_16 : decode cX12_feels 16 = .ok (.iload_n 1, 1) := by decide +kernel
theorem dX12_feels_17 : decode cX12_feels 17 = .ok (.iload 5, 2) := by decide +kernel
theorem dX12_feels_19 : decode cX12_feels 19 = .ok (.invokevirtual 176, 3) := by decide +kernel
theorem dX12_feels_22 : decode cX12_feels 22 = .ok (.ifCond .eq 33, 3) := by decide +kernel
theorem dX12_feels_25 : decode cX12_feels 25 = .ok (.aload_n 0, 1) := by decide +kernel
theorem dX12_feels_26 : decode cX12_feels 26 = .ok (.getfield 22, 3) := by decide +kernel
theorem dX12_feels_29 : decode cX12_feels 29 = .ok (.bipush 8, 2) := by decide +kernel
theorem dX12_feels_31 : decode cX12_feels 31 = .ok (.iload_n 1, 1) := by decide +kernel
theorem dX12_feels_32 : decode cX12_feels 32 = .ok (.imul, 1) := by decide +kernel
theorem dX12_feels_33 : decode cX12_feels 33 = .ok (.iload 5, 2) := by decide +kernel
theorem dX12_feels_35 : decode cX12_feels 35 = .ok (.iadd, 1) := by decide +kernel
theorem dX12_feels_36 : decode cX12_feels 36 = .ok (.iaload, 1) := by decide +kernel
theorem dX12_feels_37 : decode cX12_feels 37 = .ok (.aload_n 0, 1) := by decide +kernel
theorem dX12_feels_38 : decode cX12_feels 38 = .ok (.getfield 22, 3) := by decide +kernel
theorem dX12_feels_41 : decode cX12_feels 41 = .ok (.bipush 8, 2) := by decide +kernel
theorem dX12_feels_43 : decode cX12_feels 43 = .ok (.iload_n 1, 1) := by decide +kernel
theorem dX12_feels_44 : decode cX12_feels 44 = .ok (.imul, 1) := by decide +kernel
theorem dX12_feels_45 : decode cX12_feels 45 = .ok (.iload_n 2, 1) := by decide +kernel
theorem dX12_feels_46 : decode cX12_feels 46 = .ok (.iadd, 1) := by decide +kernel
theorem dX12_feels_47 : decode cX12_feels 47 = .ok (.iaload, 1) := by decide +kernel
theorem dX12_feels_48 : decode cX12_feels 48 = .ok (.if_icmp .le 7, 3) := by decide +kernel
theorem dX12_feels_51 : decode cX12_feels 51 = .ok (.iconst 1, 1) := by decide +kernel
theorem dX12_feels_52 : decode cX12_feels 52 = .ok (.goto 4, 3) := by decide +kernel
theorem dX12_feels_55 : decode cX12_feels 55 = .ok (.iconst 0, 1) := by decide +kernel
theorem dX12_feels_56 : decode cX12_feels 56 = .ok (.iadd, 1) := by decide +kernel
theorem dX12_feels_57 : decode cX12_feels 57 = .ok (.istore 4, 2) := by decide +kernel
theorem dX12_feels_59 : decode cX12_feels 59 = .ok (.iinc 5 1, 3) := by decide +kernel
theorem dX12_feels_62 : decode cX12_feels 62 = .ok (.goto (-56), 3) := by decide +kernel
theorem dX12_feels_65 : decode cX12_feels 65 = .ok (.aload_n 0, 1) := by decide +kernel
theorem dX12_feels_66 : decode cX12_feels 66 = .ok (.getfield 69, 3) := by decide +kernel
theorem dX12_feels_69 : decode cX12_feels 69 = .ok (.iconst 0, 1) := by decide +kernel
theorem dX12_feels_70 : decode cX12_feels 70 = .ok (.aload_n 0, 1) := by decide +kernel
theorem dX12_feels_71 : decode cX12_feels 71 = .ok (.iload_n 1, 1) := by decide +kernel
theorem dX12_feels_72 : decode cX12_feels 72 = .ok (.iload_n 2, 1) := by decide +kernel
theorem dX12_feels_73 : decode cX12_feels 73 = .ok (.iload_n 3, 1) := by decide +kernel
theorem dX12_feels_74 : decode cX12_feels 74 = .ok (.invokevirtual 186, 3) := by decide +kernel
theorem dX12_feels_77 : decode cX12_feels 77 = .ok (.iastore, 1) := by decide +kernel
theorem dX12_feels_78 : decode cX12_feels 78 = .ok (.aload_n 0, 1) := by decide +kernel
theorem dX12_feels_79 : decode cX12_feels 79 = .ok (.getfield 69, 3) := by decide +kernel
theorem dX12_feels_82 : decode cX12_feels 82 = .ok (.iconst 1, 1) := by decide +kernel
theorem dX12_feels_83 : decode cX12_feels 83 = .ok (.aload_n 0, 1) := by decide +kernel
theorem dX12_feels_84 : decode cX12_feels 84 = .ok (.iload_n 1, 1) := by decide +kernel
theorem dX12_feels_85 : decode cX12_feels 85 = .ok (.iload_n 2, 1) := by decide +kernel
theorem dX12_feels_86 : decode cX12_feels 86 = .ok (.invokevirtual 193, 3) := by decide +kernel
theorem dX12_feels_89 : decode cX12_feels 89 = .ok (.iastore, 1) := by decide +kernel
theorem dX12_feels_90 : decode cX12_feels 90 = .ok (.aload_n 0, 1) := by decide +kernel
theorem dX12_feels_91 : decode cX12_feels 91 = .ok (.getfield 69, 3) := by decide +kernel
theorem dX12_feels_94 : decode cX12_feels 94 = .ok (.iconst 2, 1) := by decide +kernel
theorem dX12_feels_95 : decode cX12_feels 95 = .ok (.aload_n 0, 1) := by decide +kernel
theorem dX12_feels_96 : decode cX12_feels 96 = .ok (.iload_n 1, 1) := by decide +kernel
theorem dX12_feels_97 : decode cX12_feels 97 = .ok (.iload_n 3, 1) := by decide +kernel
theorem dX12_feels_98 : decode cX12_feels 98 = .ok (.invokevirtual 193, 3) := by decide +kernel
theorem dX12_feels_101 : decode cX12_feels 101 = .ok (.iastore, 1) := by decide +kernel
theorem dX12_feels_102 : decode cX12_feels 102 = .ok (.aload_n 0, 1) := by decide +kernel
theorem dX12_feels_103 : decode cX12_feels 103 = .ok (.getfield 69, 3) := by decide +kernel
theorem dX12_feels_106 : decode cX12_feels 106 = .ok (.iconst 3, 1) := by decide +kernel
theorem dX12_feels_107 : decode cX12_feels 107 = .ok (.aload_n 0, 1) := by decide +kernel
theorem dX12_feels_108 : decode cX12_feels 108 = .ok (.getfield 19, 3) := by decide +kernel
theorem dX12_feels_111 : decode cX12_feels 111 = .ok (.iload_n 1, 1) := by decide +kernel
theorem dX12_feels_112 : decode cX12_feels 112 = .ok (.iaload, 1) := by decide +kernel
theorem dX12_feels_113 : decode cX12_feels 113 = .ok (.invokestatic 172, 3) := by decide +kernel
theorem dX12_feels_116 : decode cX12_feels 116 = .ok (.iastore, 1) := by decide +kernel
theorem dX12_feels_117 : decode cX12_feels 117 = .ok (.aload_n 0, 1) := by decide +kernel
theorem dX12_feels_118 : decode cX12_feels 118 = .ok (.getfield 69, 3) := by decide +kernel
theorem dX12_feels_121 : decode cX12_feels 121 = .ok (.iconst 4, 1) := by decide +kernel
theorem dX12_feels_122 : decode cX12_feels 122 = .ok (.aload_n 0, 1) := by decide +kernel
theorem dX12_feels_123 : decode cX12_feels 123 = .ok (.iload_n 1, 1) := by decide +kernel
theorem dX12_feels_124 : decode cX12_feels 124 = .ok (.invokevirtual 183, 3) := by decide +kernel
theorem dX12_feels_127 : decode cX12_feels 127 = .ok (.aload_n 0, 1) := by decide +kernel
theorem dX12_feels_128 : decode cX12_feels 128 = .ok (.getfield 16, 3) := by decide +kernel
theorem dX12_feels_131 : decode cX12_feels 131 = .ok (.iload_n 1, 1) := by decide +kernel
theorem dX12_feels_132 : decode cX12_feels 132 = .ok (.iaload, 1) := by decide +kernel
theorem dX12_feels_133 : decode cX12_feels 133 = .ok (.isub, 1) := by decide +kernel
theorem dX12_feels_134 : decode cX12_feels 134 = .ok (.iastore, 1) := by decide +kernel
theorem dX12_feels_135 : decode cX12_feels 135 = .ok (.aload_n 0, 1) := by decide +kernel
theorem dX12_feels_136 : decode cX12_feels 136 = .ok (.getfield 69, 3) := by decide +kernel
theorem dX12_feels_139 : decode cX12_feels 139 = .ok (.iconst 5, 1) := by decide +kernel
theorem dX12_feels_140 : decode cX12_feels 140 = .ok (.aload_n 0, 1) := by decide +kernel
theorem dX12_feels_141 : decode cX12_feels 141 = .ok (.iload_n 1, 1) := by decide +kernel
theorem dX12_feels_142 : decode cX12_feels 142 = .ok (.iload_n 2, 1) := by decide +kernel
theorem dX12_feels_143 : decode cX12_feels 143 = .ok (.invokevirtual 200, 3) := by decide +kernel
theorem dX12_feels_146 : decode cX12_feels 146 = .ok (.iconst (-1), 1) := by decide +kernel
theorem dX12_feels_147 : decode cX12_feels 147 = .ok (.if_icmp .ne 7, 3) := by decide +kernel
theorem dX12_feels_150 : decode cX12_feels 150 = .ok (.iconst 0, 1) := by decide +kernel
theorem dX12_feels_151 : decode cX12_feels 151 = .ok (.goto 4, 3) := by decide +kernel
theorem dX12_feels_154 : decode cX12_feels 154 = .ok (.iconst 1, 1) := by decide +kernel
theorem dX12_feels_155 : decode cX12_feels 155 = .ok (.iastore, 1) := by decide +kernel
theorem dX12_feels_156 : decode cX12_feels 156 = .ok (.aload_n 0, 1) := by decide +kernel
theorem dX12_feels_157 : decode cX12_feels 157 = .ok (.getfield 69, 3) := by decide +kernel
theorem dX12_feels_160 : decode cX12_feels 160 = .ok (.bipush 6, 2) := by decide +kernel
theorem dX12_feels_162 : decode cX12_feels 162 = .ok (.iload 4, 2) := by decide +kernel
theorem dX12_feels_164 : decode cX12_feels 164 = .ok (.iastore, 1) := by decide +kernel
theorem dX12_feels_165 : decode cX12_feels 165 = .ok (.aload_n 0, 1) := by decide +kernel
theorem dX12_feels_166 : decode cX12_feels 166 = .ok (.getfield 69, 3) := by decide +kernel
theorem dX12_feels_169 : decode cX12_feels 169 = .ok (.bipush 7, 2) := by decide +kernel
theorem dX12_feels_171 : decode cX12_feels 171 = .ok (.aload_n 0, 1) := by decide +kernel
theorem dX12_feels_172 : decode cX12_feels 172 = .ok (.getfield 16, 3) := by decide +kernel
theorem dX12_feels_175 : decode cX12_feels 175 = .ok (.iload_n 1, 1) := by decide +kernel
theorem dX12_feels_176 : decode cX12_feels 176 = .ok (.iaload, 1) := by decide +kernel
theorem dX12_feels_177 : decode cX12_feels 177 = .ok (.bipush 60, 2) := by decide +kernel
theorem dX12_feels_179 : decode cX12_feels 179 = .ok (.idiv, 1) := by decide +kernel
theorem dX12_feels_180 : decode cX12_feels 180 = .ok (.iastore, 1) := by decide +kernel
theorem dX12_feels_181 : decode cX12_feels 181 = .ok (.aload_n 0, 1) := by decide +kernel
theorem dX12_feels_182 : decode cX12_feels 182 = .ok (.getfield 69, 3) := by decide +kernel
theorem dX12_feels_185 : decode cX12_feels 185 = .ok (.bipush 8, 2) := by decide +kernel
theorem dX12_feels_187 : decode cX12_feels 187 = .ok (.aload_n 0, 1) := by decide +kernel
theorem dX12_feels_188 : decode cX12_feels 188 = .ok (.getfield 13, 3) := by decide +kernel
theorem dX12_feels_191 : decode cX12_feels 191 = .ok (.iload_n 1, 1) := by decide +kernel
theorem dX12_feels_192 : decode cX12_feels 192 = .ok (.iaload, 1) := by decide +kernel
theorem dX12_feels_193 : decode cX12_feels 193 = .ok (.iastore, 1) := by decide +kernel
theorem dX12_feels_194 : decode cX12_feels 194 = .ok (.aload_n 0, 1) := by decide +kernel
theorem dX12_feels_195 : decode cX12_feels 195 = .ok (.getfield 69, 3) := by decide +kernel
theorem dX12_feels_198 : decode cX12_feels 198 = .ok (.bipush 9, 2) := by decide +kernel
theorem dX12_feels_200 : decode cX12_feels 200 = .ok (.iload_n 2, 1) := by decide +kernel
theorem dX12_feels_201 : decode cX12_feels 201 = .ok (.iastore, 1) := by decide +kernel
theorem dX12_feels_202 : decode cX12_feels 202 = .ok (.aload_n 0, 1) := by decide +kernel
theorem dX12_feels_203 : decode cX12_feels 203 = .ok (.getfield 69, 3) := by decide +kernel
theorem dX12_feels_206 : decode cX12_feels 206 = .ok (.bipush 10, 2) := by decide +kernel
theorem dX12_feels_208 : decode cX12_feels 208 = .ok (.iload_n 3, 1) := by decide +kernel
theorem dX12_feels_209 : decode cX12_feels 209 = .ok (.iastore, 1) := by decide +kernel
theorem dX12_feels_210 : decode cX12_feels 210 = .ok (.aload_n 0, 1) := by decide +kernel
theorem dX12_feels_211 : decode cX12_feels 211 = .ok (.getfield 69, 3) := by decide +kernel
theorem dX12_feels_214 : decode cX12_feels 214 = .ok (.bipush 11, 2) := by decide +kernel
theorem dX12_feels_216 : decode cX12_feels 216 = .ok (.aload_n 0, 1) := by decide +kernel
theorem dX12_feels_217 : decode cX12_feels 217 = .ok (.getfield 7, 3) := by decide +kernel
theorem dX12_feels_220 : decode cX12_feels 220 = .ok (.bipush 24, 2) := by decide +kernel
theorem dX12_feels_222 : decode cX12_feels 222 = .ok (.iload_n 3, 1) := by decide +kernel
theorem dX12_feels_223 : decode cX12_feels 223 = .ok (.imul, 1) := by decide +kernel
theorem dX12_feels_224 : decode cX12_feels 224 = .ok (.aload_n 0, 1) := by decide +kernel
theorem dX12_feels_225 : decode cX12_feels 225 = .ok (.getfield 16, 3) := by decide +kernel
theorem dX12_feels_228 : decode cX12_feels 228 = .ok (.iload_n 1, 1) := by decide +kernel
theorem dX12_feels_229 : decode cX12_feels 229 = .ok (.iaload, 1) := by decide +kernel
theorem dX12_feels_230 : decode cX12_feels 230 = .ok (.bipush 60, 2) := by decide +kernel
theorem dX12_feels_232 : decode cX12_feels 232 = .ok (.idiv, 1) := by decide +kernel
theorem dX12_feels_233 : decode cX12_feels 233 = .ok (.iadd, 1) := by decide +kernel
theorem dX12_feels_234 : decode cX12_feels 234 = .ok (.iaload, 1) := by decide +kernel
theorem dX12_feels_235 : decode cX12_feels 235 = .ok (.iastore, 1) := by decide +kernel
theorem dX12_feels_236 : decode cX12_feels 236 = .ok (.return_, 1) := by decide +kernel
theorem dX12_owesBy_0 : decode cX12_owesBy 0 = .ok (.aload_n 0, 1) := by decide +kernel
theorem dX12_owesBy_1 : decode cX12_owesBy 1 = .ok (.iload_n 1, 1) := by decide +kernel
theorem dX12_owesBy_2 : decode cX12_owesBy 2 = .ok (.iload_n 2, 1) := by decide +kernel
theorem dX12_owesBy_3 : decode cX12_owesBy 3 = .ok (.iload_n 3, 1) := by decide +kernel
theorem dX12_owesBy_4 : decode cX12_owesBy 4 = .ok (.invokevirtual 308, 3) := by decide +kernel
theorem dX12_owesBy_7 : decode cX12_owesBy 7 = .ok (.iload 4, 2) := by decide +kernel
theorem dX12_owesBy_9 : decode cX12_owesBy 9 = .ok (.ifCond .ne 15, 3) := by decide +kernel
theorem dX12_owesBy_12 : decode cX12_owesBy 12 = .ok (.aload_n 0, 1) := by decide +kernel
theorem dX12_owesBy_13 : decode cX12_owesBy 13 = .ok (.bipush 111, 2) := by decide +kernel
theorem dX12_owesBy_15 : decode cX12_owesBy 15 = .ok (.sipush 1440, 3) := by decide +kernel
theorem dX12_owesBy_18 : decode cX12_owesBy 18 = .ok (.invokevirtual 312, 3) := by decide +kernel
theorem dX12_owesBy_21 : decode cX12_owesBy 21 = .ok (.goto 28, 3) := by decide +kernel
theorem dX12_owesBy_24 : decode cX12_owesBy 24 = .ok (.iload 4, 2) := by decide +kernel
theorem dX12_owesBy_26 : decode cX12_owesBy 26 = .ok (.iconst 1, 1) := by decide +kernel
theorem dX12_owesBy_27 : decode cX12_owesBy 27 = .ok (.if_icmp .ne 14, 3) := by decide +kernel
theorem dX12_owesBy_30 : decode cX12_owesBy 30 = .ok (.aload_n 0, 1) := by decide +kernel
theorem dX12_owesBy_31 : decode cX12_owesBy 31 = .ok (.bipush 112, 2) := by decide +kernel
theorem dX12_owesBy_33 : decode cX12_owesBy 33 = .ok (.bipush 100, 2) := by decide +kernel
theorem dX12_owesBy_35 : decode cX12_owesBy 35 = .ok (.invokevirtual 312, 3) := by decide +kernel
theorem dX12_owesBy_38 : decode cX12_owesBy 38 = .ok (.goto 11, 3) := by decide +kernel
theorem dX12_owesBy_41 : decode cX12_owesBy 41 = .ok (.aload_n 0, 1) := by decide +kernel
theorem dX12_owesBy_42 : decode cX12_owesBy 42 = .ok (.bipush 108, 2) := by decide +kernel
theorem dX12_owesBy_44 : decode cX12_owesBy 44 = .ok (.bipush 100, 2) := by decide +kernel
theorem dX12_owesBy_46 : decode cX12_owesBy 46 = .ok (.invokevirtual 312, 3) := by decide +kernel
theorem dX12_owesBy_49 : decode cX12_owesBy 49 = .ok (.ireturn, 1) := by decide +kernel
theorem dX12_areTwo_0 : decode cX12_areTwo 0 = .ok (.aload_n 0, 1) := by decide +kernel
theorem dX12_areTwo_1 : decode cX12_areTwo 1 = .ok (.iload_n 1, 1) := by decide +kernel
theorem dX12_areTwo_2 : decode cX12_areTwo 2 = .ok (.iload_n 2, 1) := by decide +kernel
theorem dX12_areTwo_3 : decode cX12_areTwo 3 = .ok (.invokevirtual 176, 3) := by decide +kernel
theorem dX12_areTwo_6 : decode cX12_areTwo 6 = .ok (.ifCond .eq 29, 3) := by decide +kernel
theorem dX12_areTwo_9 : decode cX12_areTwo 9 = .ok (.aload_n 0, 1) := by decide +kernel
theorem dX12_areTwo_10 : decode cX12_areTwo 10 = .ok (.iload_n 1, 1) := by decide +kernel
theorem dX12_areTwo_11 : decode cX12_areTwo 11 = .ok (.iload_n 3, 1) := by decide +kernel
theorem dX12_areTwo_12 : decode cX12_areTwo 12 = .ok (.invokevirtual 176, 3) := by decide +kernel
theorem dX12_areTwo_15 : decode cX12_areTwo 15 = .ok (.ifCond .eq 20, 3) := by decide +kernel
theorem dX12_areTwo_18 : decode cX12_areTwo 18 = .ok (.iload_n 2, 1) := by decide +kernel
theorem dX12_areTwo_19 : decode cX12_areTwo 19 = .ok (.iload_n 3, 1) := by decide +kernel
theorem dX12_areTwo_20 : decode cX12_areTwo 20 = .ok (.if_icmp .eq 15, 3) := by decide +kernel
theorem dX12_areTwo_23 : decode cX12_areTwo 23 = .ok (.aload_n 0, 1) := by decide +kernel
theorem dX12_areTwo_24 : decode cX12_areTwo 24 = .ok (.iload_n 1, 1) := by decide +kernel
theorem dX12_areTwo_25 : decode cX12_areTwo 25 = .ok (.invokevirtual 180, 3) := by decide +kernel
theorem dX12_areTwo_28 : decode cX12_areTwo 28 = .ok (.ifCond .eq 7, 3) := by decide +kernel
theorem dX12_areTwo_31 : decode cX12_areTwo 31 = .ok (.iconst 1, 1) := by decide +kernel
theorem dX12_areTwo_32 : decode cX12_areTwo 32 = .ok (.goto 4, 3) := by decide +kernel
theorem dX12_areTwo_35 : decode cX12_areTwo 35 = .ok (.iconst 0, 1) := by decide +kernel
theorem dX12_areTwo_36 : decode cX12_areTwo 36 = .ok (.ireturn, 1) := by decide +kernel
theorem dX12_owes_0 : decode cX12_owes 0 = .ok (.aload_n 0, 1) := by decide +kernel
theorem dX12_owes_1 : decode cX12_owes 1 = .ok (.iload_n 1, 1) := by decide +kernel
theorem dX12_owes_2 : decode cX12_owes 2 = .ok (.iload_n 2, 1) := by decide +kernel
theorem dX12_owes_3 : decode cX12_owes 3 = .ok (.iload_n 3, 1) := by decide +kernel
theorem dX12_owes_4 : decode cX12_owes 4 = .ok (.invokevirtual 315, 3) := by decide +kernel
theorem dX12_owes_7 : decode cX12_owes 7 = .ok (.ifCond .eq 25, 3) := by decide +kernel
theorem dX12_owes_10 : decode cX12_owes 10 = .ok (.iload 4, 2) := by decide +kernel
theorem dX12_owes_12 : decode cX12_owes 12 = .ok (.iconst 0, 1) := by decide +kernel
theorem dX12_owes_13 : decode cX12_owes 13 = .ok (.iconst 2, 1) := by decide +kernel
theorem dX12_owes_14 : decode cX12_owes 14 = .ok (.invokestatic 168, 3) := by decide +kernel
theorem dX12_owes_17 : decode cX12_owes 17 = .ok (.ifCond .eq 15, 3) := by decide +kernel
theorem dX12_owes_20 : decode cX12_owes 20 = .ok (.aload_n 0, 1) := by decide +kernel
theorem dX12_owes_21 : decode cX12_owes 21 = .ok (.iload_n 1, 1) := by decide +kernel
theorem dX12_owes_22 : decode cX12_owes 22 = .ok (.iload_n 2, 1) := by decide +kernel
theorem dX12_owes_23 : decode cX12_owes 23 = .ok (.iload_n 3, 1) := by decide +kernel
theorem dX12_owes_24 : decode cX12_owes 24 = .ok (.iload 4, 2) := by decide +kernel
theorem dX12_owes_26 : decode cX12_owes 26 = .ok (.invokevirtual 318, 3) := by decide +kernel
theorem dX12_owes_29 : decode cX12_owes 29 = .ok (.goto 4, 3) := by decide +kernel
theorem dX12_owes_32 : decode cX12_owes 32 = .ok (.iconst (-1), 1) := by decide +kernel
theorem dX12_owes_33 : decode cX12_owes 33 = .ok (.ireturn, 1) := by decide +kernel
theorem dX12_chains_0 : decode cX12_chains 0 = .ok (.aload_n 0, 1) := by decide +kernel
theorem dX12_chains_1 : decode cX12_chains 1 = .ok (.iload_n 1, 1) := by decide +kernel
theorem dX12_chains_2 : decode cX12_chains 2 = .ok (.iload_n 2, 1) := by decide +kernel
theorem dX12_chains_3 : decode cX12_chains 3 = .ok (.iload_n 3, 1) := by decide +kernel
theorem dX12_chains_4 : decode cX12_chains 4 = .ok (.iconst 1, 1) := by decide +kernel
theorem dX12_chains_5 : decode cX12_chains 5 = .ok (.invokevirtual 318, 3) := by decide +kernel
theorem dX12_chains_8 : decode cX12_chains 8 = .ok (.istore 4, 2) := by decide +kernel
theorem dX12_chains_10 : decode cX12_chains 10 = .ok (.aload_n 0, 1) := by decide +kernel
theorem dX12_chains_11 : decode cX12_chains 11 = .ok (.iload_n 1, 1) := by decide +kernel
theorem dX12_chains_12 : decode cX12_chains 12 = .ok (.iload_n 2, 1) := by decide +kernel
theorem dX12_chains_13 : decode cX12_chains 13 = .ok (.iload_n 3, 1) := by decide +kernel
theorem dX12_chains_14 : decode cX12_chains 14 = .ok (.iconst 0, 1) := by decide +kernel
theorem dX12_chains_15 : decode cX12_chains 15 = .ok (.invokevirtual 318, 3) := by decide +kernel
theorem dX12_chains_18 : decode cX12_chains 18 = .ok (.istore 5, 2) := by decide +kernel
theorem dX12_chains_20 : decode cX12_chains 20 = .ok (.iload_n 2, 1) := by decide +kernel
theorem dX12_chains_21 : decode cX12_chains 21 = .ok (.istore 6, 2) := by decide +kernel
theorem dX12_chains_23 : decode cX12_chains 23 = .ok (.iload_n 1, 1) := by decide +kernel
theorem dX12_chains_24 : decode cX12_chains 24 = .ok (.istore 7, 2) := by decide +kernel
theorem dX12_chains_26 : decode cX12_chains 26 = .ok (.aload_n 0, 1) := by decide +kernel
theorem dX12_chains_27 : decode cX12_chains 27 = .ok (.iconst 0, 1) := by decide +kernel
theorem dX12_chains_28 : decode cX12_chains 28 = .ok (.putfield 322, 3) := by decide +kernel
theorem dX12_chains_31 : decode cX12_chains 31 = .ok (.iload 6, 2) := by decide +kernel
theorem dX12_chains_33 : decode cX12_chains 33 = .ok (.iconst (-1), 1) := by decide +kernel
theorem dX12_chains_34 : decode cX12_chains 34 = .ok (.if_icmp .eq 96, 3) := by decide +kernel
theorem dX12_chains_37 : decode cX12_chains 37 = .ok (.aload_n 0, 1) := by decide +kernel
theorem dX12_chains_38 : decode cX12_chains 38 = .ok (.iload 7, 2) := by decide +kernel
theorem dX12_chains_40 : decode cX12_chains 40 = .ok (.iload 6, 2) := by decide +kernel
theorem dX12_chains_42 : decode cX12_chains 42 = .ok (.invokevirtual 200, 3) := by decide +kernel
theorem dX12_chains_45 : decode cX12_chains 45 = .ok (.istore 8, 2) := by decide +kernel
theorem dX12_chains_47 : decode cX12_chains 47 = .ok (.iload 8, 2) := by decide +kernel
theorem dX12_chains_49 : decode cX12_chains 49 = .ok (.iconst (-1), 1) := by decide +kernel
theorem dX12_chains_50 : decode cX12_chains 50 = .ok (.if_icmp .ne 7, 3) := by decide +kernel
theorem dX12_chains_53 : decode cX12_chains 53 = .ok (.iconst 0, 1) := by decide +kernel
theorem dX12_chains_54 : decode cX12_chains 54 = .ok (.goto 11, 3) := by decide +kernel
theorem dX12_chains_57 : decode cX12_chains 57 = .ok (.iload 5, 2) := by decide +kernel
theorem dX12_chains_59 : decode cX12_chains 59 = .ok (.iload 4, 2) := by decide +kernel
theorem dX12_chains_61 : decode cX12_chains 61 = .ok (.imul, 1) := by decide +kernel
theorem dX12_chains_62 : decode cX12_chains 62 = .ok (.bipush 100, 2) := by decide +kernel
theorem dX12_chains_64 : decode cX12_chains 64 = .ok (.idiv, 1) := by decide +kernel
theorem dX12_chains_65 : decode cX12_chains 65 = .ok (.istore 9, 2) := by decide +kernel
theorem dX12_chains_67 : decode cX12_chains 67 = .ok (.aload_n 0, 1) := by decide +kernel
theorem dX12_chains_68 : decode cX12_chains 68 = .ok (.getfield 72, 3) := by decide +kernel
theorem dX12_chains_71 : decode cX12_chains 71 = .ok (.aload_n 0, 1) := by decide +kernel
theorem dX12_chains_72 : decode cX12_chains 72 = .ok (.getfield 322, 3) := by decide +kernel
theorem dX12_chains_75 : decode cX12_chains 75 = .ok (.iload 6, 2) := by decide +kernel
theorem dX12_chains_77 : decode cX12_chains 77 = .ok (.iastore, 1) := by decide +kernel
theorem dX12_chains_78 : decode cX12_chains 78 = .ok (.aload_n 0, 1) := by decide +kernel
theorem dX12_chains_79 : decode cX12_chains 79 = .ok (.getfield 75, 3) := by decide +kernel
theorem dX12_chains_82 : decode cX12_chains 82 = .ok (.aload_n 0, 1) := by decide +kernel
theorem dX12_chains_83 : decode cX12_chains 83 = .ok (.getfield 322, 3) := by decide +kernel
theorem dX12_chains_86 : decode cX12_chains 86 = .ok (.iload 5, 2) := by decide +kernel
theorem dX12_chains_88 : decode cX12_chains 88 = .ok (.iload 9, 2) := by decide +kernel
theorem dX12_chains_90 : decode cX12_chains 90 = .ok (.isub, 1) := by decide +kernel
theorem dX12_chains_91 : decode cX12_chains 91 = .ok (.iastore, 1) := by decide +kernel
theorem dX12_chains_92 : decode cX12_chains 92 = .ok (.aload_n 0, 1) := by decide +kernel
theorem dX12_chains_93 : decode cX12_chains 93 = .ok (.aload_n 0, 1) := by decide +kernel
theorem dX12_chains_94 : decode cX12_chains 94 = .ok (.getfield 322, 3) := by decide +kernel
theorem dX12_chains_97 : decode cX12_chains 97 = .ok (.iconst 1, 1) := by decide +kernel
theorem dX12_chains_98 : decode cX12_chains 98 = .ok (.iadd, 1) := by decide +kernel
theorem dX12_chains_99 : decode cX12_chains 99 = .ok (.putfield 322, 3) := by decide +kernel
theorem dX12_chains_102 : decode cX12_chains 102 = .ok (.iload 9, 2) := by decide +kernel
theorem dX12_chains_104 : decode cX12_chains 104 = .ok (.ifCond .le 12, 3) := by decide +kernel
theorem dX12_chains_107 : decode cX12_chains 107 = .ok (.aload_n 0, 1) := by decide +kernel
theorem dX12_chains_108 : decode cX12_chains 108 = .ok (.iload 8, 2) := by decide +kernel
theorem dX12_chains_110 : decode cX12_chains 110 = .ok (.invokevirtual 190, 3) := by decide +kernel
theorem dX12_chains_113 : decode cX12_chains 113 = .ok (.goto 4, 3) := by decide +kernel
theorem dX12_chains_116 : decode cX12_chains 116 = .ok (.iconst (-1), 1) := by decide +kernel
theorem dX12_chains_117 : decode cX12_chains 117 = .ok (.istore 6, 2) := by decide +kernel
theorem dX12_chains_119 : decode cX12_chains 119 = .ok (.iload 8, 2) := by decide +kernel
theorem dX12_chains_121 : decode cX12_chains 121 = .ok (.istore 7, 2) := by decide +kernel
theorem dX12_chains_123 : decode cX12_chains 123 = .ok (.iload 9, 2) := by decide +kernel
theorem dX12_chains_125 : decode cX12_chains 125 = .ok (.istore 5, 2) := by decide +kernel
theorem dX12_chains_127 : decode cX12_chains 127 = .ok (.goto (-96), 3) := by decide +kernel
theorem dX12_chains_130 : decode cX12_chains 130 = .ok (.return_, 1) := by decide +kernel
theorem dX12_chain_0 : decode cX12_chain 0 = .ok (.aload_n 0, 1) := by decide +kernel
theorem dX12_chain_1 : decode cX12_chain 1 = .ok (.iload_n 1, 1) := by decide +kernel
theorem dX12_chain_2 : decode cX12_chain 2 = .ok (.iload_n 2, 1) := by decide +kernel
theorem dX12_chain_3 : decode cX12_chain 3 = .ok (.iload_n 3, 1) := by decide +kernel
theorem dX12_chain_4 : decode cX12_chain 4 = .ok (.invokevirtual 315, 3) := by decide +kernel
theorem dX12_chain_7 : decode cX12_chain 7 = .ok (.ifCond .ne 5, 3) := by decide +kernel
theorem dX12_chain_10 : decode cX12_chain 10 = .ok (.iconst (-1), 1) := by decide +kernel
theorem dX12_chain_11 : decode cX12_chain 11 = .ok (.ireturn, 1) := by decide +kernel
theorem dX12_chain_12 : decode cX12_chain 12 = .ok (.aload_n 0, 1) := by decide +kernel
theorem dX12_chain_13 : decode cX12_chain 13 = .ok (.iload_n 1, 1) := by decide +kernel
theorem dX12_chain_14 : decode cX12_chain 14 = .ok (.iload_n 2, 1) := by decide +kernel
theorem dX12_chain_15 : decode cX12_chain 15 = .ok (.iload_n 3, 1) := by decide +kernel
theorem dX12_chain_16 : decode cX12_chain 16 = .ok (.invokevirtual 325, 3) := by decide +kernel
theorem dX12_chain_19 : decode cX12_chain 19 = .ok (.iload 4, 2) := by decide +kernel
theorem dX12_chain_21 : decode cX12_chain 21 = .ok (.ifCond .ne 8, 3) := by decide +kernel
theorem dX12_chain_24 : decode cX12_chain 24 = .ok (.aload_n 0, 1) := by decide +kernel
theorem dX12_chain_25 : decode cX12_chain 25 = .ok (.getfield 322, 3) := by decide +kernel
theorem dX12_chain_28 : decode cX12_chain 28 = .ok (.ireturn, 1) := by decide +kernel
theorem dX12_chain_29 : decode cX12_chain 29 = .ok (.iload 4, 2) := by decide +kernel
theorem dX12_chain_31 : decode cX12_chain 31 = .ok (.bipush 10, 2) := by decide +kernel
theorem dX12_chain_33 : decode cX12_chain 33 = .ok (.bipush 19, 2) := by decide +kernel
theorem dX12_chain_35 : decode cX12_chain 35 = .ok (.invokestatic 168, 3) := by decide +kernel
theorem dX12_chain_38 : decode cX12_chain 38 = .ok (.ifCond .eq 30, 3) := by decide +kernel
theorem dX12_chain_41 : decode cX12_chain 41 = .ok (.iload 4, 2) := by decide +kernel
theorem dX12_chain_43 : decode cX12_chain 43 = .ok (.bipush 10, 2) := by decide +kernel
theorem dX12_chain_45 : decode cX12_chain 45 = .ok (.isub, 1) := by decide +kernel
theorem dX12_chain_46 : decode cX12_chain 46 = .ok (.aload_n 0, 1) := by decide +kernel
theorem dX12_chain_47 : decode cX12_chain 47 = .ok (.getfield 322, 3) := by decide +kernel
theorem dX12_chain_50 : decode cX12_chain 50 = .ok (.if_icmp .ge 16, 3) := by decide +kernel
theorem dX12_chain_53 : decode cX12_chain 53 = .ok (.aload_n 0, 1) := by decide +kernel
theorem dX12_chain_54 : decode cX12_chain 54 = .ok (.getfield 72, 3) := by decide +kernel
theorem dX12_chain_57 : decode cX12_chain 57 = .ok (.iload 4, 2) := by decide +kernel
theorem dX12_chain_59 : decode cX12_chain 59 = .ok (.bipush 10, 2) := by decide +kernel
theorem dX12_chain_61 : decode cX12_chain 61 = .ok (.isub, 1) := by decide +kernel
theorem dX12_chain_62 : decode cX12_chain 62 = .ok (.iaload, 1) := by decide +kernel
theorem dX12_chain_63 : decode cX12_chain 63 = .ok (.goto 4, 3) := by decide +kernel
theorem dX12_chain_66 : decode cX12_chain 66 = .ok (.iconst (-1), 1) := by decide +kernel
theorem dX12_chain_67 : decode cX12_chain 67 = .ok (.ireturn, 1) := by decide +kernel
theorem dX12_chain_68 : decode cX12_chain 68 = .ok (.iload 4, 2) := by decide +kernel
theorem dX12_chain_70 : decode cX12_chain 70 = .ok (.bipush 20, 2) := by decide +kernel
theorem dX12_chain_72 : decode cX12_chain 72 = .ok (.bipush 19, 2) := by decide +kernel
theorem dX12_chain_74 : decode cX12_chain 74 = .ok (.aload_n 0, 1) := by decide +kernel
theorem dX12_chain_75 : decode cX12_chain 75 = .ok (.getfield 322, 3) := by decide +kernel
theorem dX12_chain_78 : decode cX12_chain 78 = .ok (.iadd, 1) := by decide +kernel
theorem dX12_chain_79 : decode cX12_chain 79 = .ok (.invokestatic 168, 3) := by decide +kernel
theorem dX12_chain_82 : decode cX12_chain 82 = .ok (.ifCond .eq 16, 3) := by decide +kernel
theorem dX12_chain_85 : decode cX12_chain 85 = .ok (.aload_n 0, 1) := by decide +kernel
theorem dX12_chain_86 : decode cX12_chain 86 = .ok (.getfield 75, 3) := by decide +kernel
theorem dX12_chain_89 : decode cX12_chain 89 = .ok (.iload 4, 2) := by decide +kernel
theorem dX12_chain_91 : decode cX12_chain 91 = .ok (.bipush 20, 2) := by decide +kernel
theorem dX12_chain_93 : decode cX12_chain 93 = .ok (.isub, 1) := by decide +kernel
theorem dX12_chain_94 : decode cX12_chain 94 = .ok (.iaload, 1) := by decide +kernel
theorem dX12_chain_95 : decode cX12_chain 95 = .ok (.goto 4, 3) := by decide +kernel
theorem dX12_chain_98 : decode cX12_chain 98 = .ok (.iconst (-1), 1) := by decide +kernel
theorem dX12_chain_99 : decode cX12_chain 99 = .ok (.ireturn, 1) := by decide +kernel
theorem dX12_makes_0 : decode cX12_makes 0 = .ok (.aload_n 0, 1) := by decide +kernel
theorem dX12_makes_1 : decode cX12_makes 1 = .ok (.getfield 78, 3) := by decide +kernel
theorem dX12_makes_4 : decode cX12_makes 4 = .ok (.aload_n 0, 1) := by decide +kernel
theorem dX12_makes_5 : decode cX12_makes 5 = .ok (.getfield 328, 3) := by decide +kernel
theorem dX12_makes_8 : decode cX12_makes 8 = .ok (.iload_n 1, 1) := by decide +kernel
theorem dX12_makes_9 : decode cX12_makes 9 = .ok (.iastore, 1) := by decide +kernel
theorem dX12_makes_10 : decode cX12_makes 10 = .ok (.aload_n 0, 1) := by decide +kernel
theorem dX12_makes_11 : decode cX12_makes 11 = .ok (.getfield 81, 3) := by decide +kernel
theorem dX12_makes_14 : decode cX12_makes 14 = .ok (.aload_n 0, 1) := by decide +kernel
theorem dX12_makes_15 : decode cX12_makes 15 = .ok (.getfield 328, 3) := by decide +kernel
theorem dX12_makes_18 : decode cX12_makes 18 = .ok (.iload_n 2, 1) := by decide +kernel
theorem dX12_makes_19 : decode cX12_makes 19 = .ok (.iastore, 1) := by decide +kernel
theorem dX12_makes_20 : decode cX12_makes 20 = .ok (.aload_n 0, 1) := by decide +kernel
theorem dX12_makes_21 : decode cX12_makes 21 = .ok (.getfield 84, 3) := by decide +kernel
theorem dX12_makes_24 : decode cX12_makes 24 = .ok (.aload_n 0, 1) := by decide +kernel
theorem dX12_makes_25 : decode cX12_makes 25 = .ok (.getfield 328, 3) := by decide +kernel
theorem dX12_makes_28 : decode cX12_makes 28 = .ok (.iload_n 3, 1) := by decide +kernel
theorem dX12_makes_29 : decode cX12_makes 29 = .ok (.iastore, 1) := by decide +kernel
theorem dX12_makes_30 : decode cX12_makes 30 = .ok (.aload_n 0, 1) := by decide +kernel
theorem dX12_makes_31 : decode cX12_makes 31 = .ok (.getfield 87, 3) := by decide +kernel
theorem dX12_makes_34 : decode cX12_makes 34 = .ok (.aload_n 0, 1) := by decide +kernel
theorem dX12_makes_35 : decode cX12_makes 35 = .ok (.getfield 328, 3) := by decide +kernel
theorem dX12_makes_38 : decode cX12_makes 38 = .ok (.iload 4, 2) := by decide +kernel
theorem dX12_makes_40 : decode cX12_makes 40 = .ok (.iastore, 1) := by decide +kernel
theorem dX12_makes_41 : decode cX12_makes 41 = .ok (.aload_n 0, 1) := by decide +kernel
theorem dX12_makes_42 : decode cX12_makes 42 = .ok (.getfield 90, 3) := by decide +kernel
theorem dX12_makes_45 : decode cX12_makes 45 = .ok (.aload_n 0, 1) := by decide +kernel
theorem dX12_makes_46 : decode cX12_makes 46 = .ok (.getfield 328, 3) := by decide +kernel
theorem dX12_makes_49 : decode cX12_makes 49 = .ok (.iload 5, 2) := by decide +kernel
theorem dX12_makes_51 : decode cX12_makes 51 = .ok (.iastore, 1) := by decide +kernel
theorem dX12_makes_52 : decode cX12_makes 52 = .ok (.aload_n 0, 1) := by decide +kernel
theorem dX12_makes_53 : decode cX12_makes 53 = .ok (.aload_n 0, 1) := by decide +kernel
theorem dX12_makes_54 : decode cX12_makes 54 = .ok (.getfield 328, 3) := by decide +kernel
theorem dX12_makes_57 : decode cX12_makes 57 = .ok (.iconst 1, 1) := by decide +kernel
theorem dX12_makes_58 : decode cX12_makes 58 = .ok (.iadd, 1) := by decide +kernel
theorem dX12_makes_59 : decode cX12_makes 59 = .ok (.putfield 328, 3) := by decide +kernel
theorem dX12_makes_62 : decode cX12_makes 62 = .ok (.return_, 1) := by decide +kernel
theorem dX12_goesOver_0 : decode cX12_goesOver 0 = .ok (.iconst 0, 1) := by decide +kernel
theorem dX12_goesOver_1 : decode cX12_goesOver 1 = .ok (.istore_n 3, 1) := by decide +kernel
theorem dX12_goesOver_2 : decode cX12_goesOver 2 = .ok (.iconst 0, 1) := by decide +kernel
theorem dX12_goesOver_3 : decode cX12_goesOver 3 = .ok (.istore 4, 2) := by decide +kernel
theorem dX12_goesOver_5 : decode cX12_goesOver 5 = .ok (.iload 4, 2) := by decide +kernel
theorem dX12_goesOver_7 : decode cX12_goesOver 7 = .ok (.bipush 8, 2) := by decide +kernel
theorem dX12_goesOver_9 : decode cX12_goesOver 9 = .ok (.if_icmp .ge 152, 3) := by decide +kernel
theorem dX12_goesOver_12 : decode cX12_goesOver 12 = .ok (.iconst 0, 1) := by decide +kernel
theorem dX12_goesOver_13 : decode cX12_goesOver 13 = .ok (.istore 5, 2) := by decide +kernel
theorem dX12_goesOver_15 : decode cX12_goesOver 15 = .ok (.iload 5, 2) := by decide +kernel
theorem dX12_goesOver_17 : decode cX12_goesOver 17 = .ok (.bipush 8, 2) := by decide +kernel
theorem dX12_goesOver_19 : decode cX12_goesOver 19 = .ok (.if_icmp .ge 136, 3) := by decide +kernel
theorem dX12_goesOver_22 : decode cX12_goesOver 22 = .ok (.aload_n 0, 1) := by decide +kernel
theorem dX12_goesOver_23 : decode cX12_goesOver 23 = .ok (.iload_n 1, 1) := by decide +kernel
theorem dX12_goesOver_24 : decode cX12_goesOver 24 = .ok (.iload 4, 2) := by decide +kernel
theorem dX12_goesOver_26 : decode cX12_goesOver 26 = .ok (.iload 5, 2) := by decide +kernel
theorem dX12_goesOver_28 : decode cX12_goesOver 28 = .ok (.invokevirtual 315, 3) := by decide +kernel
theorem dX12_goesOver_31 : decode cX12_goesOver 31 = .ok (.ifCond .ne 6, 3) := by decide +kernel
theorem dX12_goesOver_34 : decode cX12_goesOver 34 = .ok (.goto 115, 3) := by decide +kernel
theorem dX12_goesOver_37 : decode cX12_goesOver 37 = .ok (.aload_n 0, 1) := by decide +kernel
theorem dX12_goesOver_38 : decode cX12_goesOver 38 = .ok (.iload_n 1, 1) := by decide +kernel
theorem dX12_goesOver_39 : decode cX12_goesOver 39 = .ok (.iload 4, 2) := by decide +kernel
theorem dX12_goesOver_41 : decode cX12_goesOver 41 = .ok (.iload 5, 2) := by decide +kernel
theorem dX12_goesOver_43 : decode cX12_goesOver 43 = .ok (.iconst 2, 1) := by decide +kernel
theorem dX12_goesOver_44 : decode cX12_goesOver 44 = .ok (.invokevirtual 318, 3) := by decide +kernel
theorem dX12_goesOver_47 : decode cX12_goesOver 47 = .ok (.istore 6, 2) := by decide +kernel
theorem dX12_goesOver_49 : decode cX12_goesOver 49 = .ok (.aload_n 0, 1) := by decide +kernel
theorem dX12_goesOver_50 : decode cX12_goesOver 50 = .ok (.iload_n 1, 1) := by decide +kernel
theorem dX12_goesOver_51 : decode cX12_goesOver 51 = .ok (.iload 4, 2) := by decide +kernel
theorem dX12_goesOver_53 : decode cX12_goesOver 53 = .ok (.iload 5, 2) := by decide +kernel
theorem dX12_goesOver_55 : decode cX12_goesOver 55 = .ok (.invokevirtual 325, 3) := by decide +kernel
theorem dX12_goesOver_58 : decode cX12_goesOver 58 = .ok (.iconst 0, 1) := by decide +kernel
theorem dX12_goesOver_59 : decode cX12_goesOver 59 = .ok (.istore 7, 2) := by decide +kernel
theorem dX12_goesOver_61 : decode cX12_goesOver 61 = .ok (.iload 7, 2) := by decide +kernel
theorem dX12_goesOver_63 : decode cX12_goesOver 63 = .ok (.aload_n 0, 1) := by decide +kernel
theorem dX12_goesOver_64 : decode cX12_goesOver 64 = .ok (.getfield 322, 3) := by decide +kernel
theorem dX12_goesOver_67 : decode cX12_goesOver 67 = .ok (.if_icmp .ge 82, 3) := by decide +kernel
theorem dX12_goesOver_70 : decode cX12_goesOver 70 = .ok (.aload_n 0, 1) := by decide +kernel
theorem dX12_goesOver_71 : decode cX12_goesOver 71 = .ok (.getfield 75, 3) := by decide +kernel
theorem dX12_goesOver_74 : decode cX12_goesOver 74 = .ok (.iload 7, 2) := by decide +kernel
theorem dX12_goesOver_76 : decode cX12_goesOver 76 = .ok (.iaload, 1) := by decide +kernel
theorem dX12_goesOver_77 : decode cX12_goesOver 77 = .ok (.ifCond .eq 66, 3) := by decide +kernel
theorem dX12_goesOver_80 : decode cX12_goesOver 80 = .ok (.aload_n 0, 1) := by decide +kernel
theorem dX12_goesOver_81 : decode cX12_goesOver 81 = .ok (.getfield 72, 3) := by decide +kernel
theorem dX12_goesOver_84 : decode cX12_goesOver 84 = .ok (.iload 7, 2) := by decide +kernel
theorem dX12_goesOver_86 : decode cX12_goesOver 86 = .ok (.iaload, 1) := by decide +kernel
theorem dX12_goesOver_87 : decode cX12_goesOver 87 = .ok (.iload 5, 2) := by decide +kernel
theorem dX12_goesOver_89 : decode cX12_goesOver 89 = .ok (.if_icmp .ne 6, 3) := by decide +kernel
theorem dX12_goesOver_92 : decode cX12_goesOver 92 = .ok (.goto 51, 3) := by decide +kernel
theorem dX12_goesOver_95 : decode cX12_goesOver 95 = .ok (.iload_n 3, 1) := by decide +kernel
theorem dX12_goesOver_96 : decode cX12_goesOver 96 = .ok (.iconst 1, 1) := by decide +kernel
theorem dX12_goesOver_97 : decode cX12_goesOver 97 = .ok (.iadd, 1) := by decide +kernel
theorem dX12_goesOver_98 : decode cX12_goesOver 98 = .ok (.istore_n 3, 1) := by decide +kernel
theorem dX12_goesOver_99 : decode cX12_goesOver 99 = .ok (.iload_n 2, 1) := by decide +kernel
theorem dX12_goesOver_100 : decode cX12_goesOver 100 = .ok (.ifCond .eq 43, 3) := by decide +kernel
theorem dX12_goesOver_103 : decode cX12_goesOver 103 = .ok (.aload_n 0, 1) := by decide +kernel
theorem dX12_goesOver_104 : decode cX12_goesOver 104 = .ok (.aload_n 0, 1) := by decide +kernel
theorem dX12_goesOver_105 : decode cX12_goesOver 105 = .ok (.getfield 72, 3) := by decide +kernel
theorem dX12_goesOver_108 : decode cX12_goesOver 108 = .ok (.iload 7, 2) := by decide +kernel
theorem dX12_goesOver_110 : decode cX12_goesOver 110 = .ok (.iaload, 1) := by decide +kernel
theorem dX12_goesOver_111 : decode cX12_goesOver 111 = .ok (.iload 5, 2) := by decide +kernel
theorem dX12_goesOver_113 : decode cX12_goesOver 113 = .ok (.aload_n 0, 1) := by decide +kernel
theorem dX12_goesOver_114 : decode cX12_goesOver 114 = .ok (.getfield 75, 3) := by decide +kernel
theorem dX12_goesOver_117 : decode cX12_goesOver 117 = .ok (.iload 7, 2) := by decide +kernel
theorem dX12_goesOver_119 : decode cX12_goesOver 119 = .ok (.iaload, 1) := by decide +kernel
theorem dX12_goesOver_120 : decode cX12_goesOver 120 = .ok (.aload_n 0, 1) := by decide +kernel
theorem dX12_goesOver_121 : decode cX12_goesOver 121 = .ok (.getfield 165, 3) := by decide +kernel
theorem dX12_goesOver_124 : decode cX12_goesOver 124 = .ok (.iload 6, 2) := by decide +kernel
theorem dX12_goesOver_126 : decode cX12_goesOver 126 = .ok (.ifCond .ne 7, 3) := by decide +kernel
theorem dX12_goesOver_129 : decode cX12_goesOver 129 = .ok (.iconst (-1), 1) := by decide +kernel
theorem dX12_goesOver_130 : decode cX12_goesOver 130 = .ok (.goto 10, 3) := by decide +kernel
theorem dX12_goesOver_133 : decode cX12_goesOver 133 = .ok (.aload_n 0, 1) := by decide +kernel
theorem dX12_goesOver_134 : decode cX12_goesOver 134 = .ok (.getfield 165, 3) := by decide +kernel
theorem dX12_goesOver_137 : decode cX12_goesOver 137 = .ok (.iload 6, 2) := by decide +kernel
theorem dX12_goesOver_139 : decode cX12_goesOver 139 = .ok (.iadd, 1) := by decide +kernel
theorem dX12_goesOver_140 : decode cX12_goesOver 140 = .ok (.invokevirtual 331, 3) := by decide +kernel
theorem dX12_goesOver_143 : decode cX12_goesOver 143 = .ok (.iinc 7 1, 3) := by decide +kernel
theorem dX12_goesOver_146 : decode cX12_goesOver 146 = .ok (.goto (-85), 3) := by decide +kernel
theorem dX12_goesOver_149 : decode cX12_goesOver 149 = .ok (.iinc 5 1, 3) := by decide +kernel
theorem dX12_goesOver_152 : decode cX12_goesOver 152 = .ok (.goto (-137), 3) := by decide +kernel
theorem dX12_goesOver_155 : decode cX12_goesOver 155 = .ok (.iinc 4 1, 3) := by decide +kernel
theorem dX12_goesOver_158 : decode cX12_goesOver 158 = .ok (.goto (-153), 3) := by decide +kernel
theorem dX12_goesOver_161 : decode cX12_goesOver 161 = .ok (.iload_n 3, 1) := by decide +kernel
theorem dX12_goesOver_162 : decode cX12_goesOver 162 = .ok (.ireturn, 1) := by decide +kernel
theorem dX12_settle_0 : decode cX12_settle 0 = .ok (.aload_n 0, 1) := by decide +kernel
theorem dX12_settle_1 : decode cX12_settle 1 = .ok (.iload_n 1, 1) := by decide +kernel
theorem dX12_settle_2 : decode cX12_settle 2 = .ok (.invokevirtual 158, 3) := by decide +kernel
theorem dX12_settle_5 : decode cX12_settle 5 = .ok (.ifCond .eq 33, 3) := by decide +kernel
theorem dX12_settle_8 : decode cX12_settle 8 = .ok (.aload_n 0, 1) := by decide +kernel
theorem dX12_settle_9 : decode cX12_settle 9 = .ok (.iload_n 1, 1) := by decide +kernel
theorem dX12_settle_10 : decode cX12_settle 10 = .ok (.invokevirtual 180, 3) := by decide +kernel
theorem dX12_settle_13 : decode cX12_settle 13 = .ok (.ifCond .eq 25, 3) := by decide +kernel
theorem dX12_settle_16 : decode cX12_settle 16 = .ok (.aload_n 0, 1) := by decide +kernel
theorem dX12_settle_17 : decode cX12_settle 17 = .ok (.getfield 25, 3) := by decide +kernel
theorem dX12_settle_20 : decode cX12_settle 20 = .ok (.iload_n 1, 1) := by decide +kernel
theorem dX12_settle_21 : decode cX12_settle 21 = .ok (.baload, 1) := by decide +kernel
theorem dX12_settle_22 : decode cX12_settle 22 = .ok (.ifCond .ne 16, 3) := by decide +kernel
theorem dX12_settle_25 : decode cX12_settle 25 = .ok (.aload_n 0, 1) := by decide +kernel
theorem dX12_settle_26 : decode cX12_settle 26 = .ok (.getfield 13, 3) := by decide +kernel
theorem dX12_settle_29 : decode cX12_settle 29 = .ok (.iload_n 1, 1) := by decide +kernel
theorem dX12_settle_30 : decode cX12_settle 30 = .ok (.iaload, 1) := by decide +kernel
theorem dX12_settle_31 : decode cX12_settle 31 = .ok (.aload_n 0, 1) := by decide +kernel
theorem dX12_settle_32 : decode cX12_settle 32 = .ok (.getfield 165, 3) := by decide +kernel
theorem dX12_settle_35 : decode cX12_settle 35 = .ok (.if_icmp .le 5, 3) := by decide +kernel
theorem dX12_settle_38 : decode cX12_settle 38 = .ok (.iconst (-1), 1) := by decide +kernel
theorem dX12_settle_39 : decode cX12_settle 39 = .ok (.ireturn, 1) := by decide +kernel
theorem dX12_settle_40 : decode cX12_settle 40 = .ok (.aload_n 0, 1) := by decide +kernel
theorem dX12_settle_41 : decode cX12_settle 41 = .ok (.iload_n 1, 1) := by decide +kernel
theorem dX12_settle_42 : decode cX12_settle 42 = .ok (.iconst 0, 1) := by decide +kernel
theorem dX12_settle_43 : decode cX12_settle 43 = .ok (.invokevirtual 335, 3) := by decide +kernel
theorem dX12_settle_46 : decode cX12_settle 46 = .ok (.istore_n 2, 1) := by decide +kernel
theorem dX12_settle_47 : decode cX12_settle 47 = .ok (.aload_n 0, 1) := by decide +kernel
theorem dX12_settle_48 : decode cX12_settle 48 = .ok (.getfield 328, 3) := by decide +kernel
theorem dX12_settle_51 : decode cX12_settle 51 = .ok (.iload_n 2, 1) := by decide +kernel
theorem dX12_settle_52 : decode cX12_settle 52 = .ok (.iadd, 1) := by decide +kernel
theorem dX12_settle_53 : decode cX12_settle 53 = .ok (.bipush 60, 2) := by decide +kernel
theorem dX12_settle_55 : decode cX12_settle 55 = .ok (.if_icmp .le 6, 3) := by decide +kernel
theorem dX12_settle_58 : decode cX12_settle 58 = .ok (.bipush (-2), 2) := by decide +kernel
theorem dX12_settle_60 : decode cX12_settle 60 = .ok (.ireturn, 1) := by decide +kernel
theorem dX12_settle_61 : decode cX12_settle 61 = .ok (.aload_n 0, 1) := by decide +kernel
theorem dX12_settle_62 : decode cX12_settle 62 = .ok (.iload_n 1, 1) := by decide +kernel
theorem dX12_settle_63 : decode cX12_settle 63 = .ok (.iconst 1, 1) := by decide +kernel
theorem dX12_settle_64 : decode cX12_settle 64 = .ok (.invokevirtual 335, 3) := by decide +kernel
theorem dX12_settle_67 : decode cX12_settle 67 = .ok (.pop, 1) := by decide +kernel
theorem dX12_settle_68 : decode cX12_settle 68 = .ok (.aload_n 0, 1) := by decide +kernel
theorem dX12_settle_69 : decode cX12_settle 69 = .ok (.getfield 25, 3) := by decide +kernel
theorem dX12_settle_72 : decode cX12_settle 72 = .ok (.iload_n 1, 1) := by decide +kernel
theorem dX12_settle_73 : decode cX12_settle 73 = .ok (.iconst 1, 1) := by decide +kernel
theorem dX12_settle_74 : decode cX12_settle 74 = .ok (.bastore, 1) := by decide +kernel
theorem dX12_settle_75 : decode cX12_settle 75 = .ok (.aload_n 0, 1) := by decide +kernel
theorem dX12_settle_76 : decode cX12_settle 76 = .ok (.aload_n 0, 1) := by decide +kernel
theorem dX12_settle_77 : decode cX12_settle 77 = .ok (.getfield 339, 3) := by decide +kernel
theorem dX12_settle_80 : decode cX12_settle 80 = .ok (.iconst 1, 1) := by decide +kernel
theorem dX12_settle_81 : decode cX12_settle 81 = .ok (.iadd, 1) := by decide +kernel
theorem dX12_settle_82 : decode cX12_settle 82 = .ok (.putfield 339, 3) := by decide +kernel
theorem dX12_settle_85 : decode cX12_settle 85 = .ok (.iload_n 2, 1) := by decide +kernel
theorem dX12_settle_86 : decode cX12_settle 86 = .ok (.ireturn, 1) := by decide +kernel
theorem dX12_isNote_0 : decode cX12_isNote 0 = .ok (.iload_n 1, 1) := by decide +kernel
theorem dX12_isNote_1 : decode cX12_isNote 1 = .ok (.ifCond .lt 15, 3) := by decide +kernel
theorem dX12_isNote_4 : decode cX12_isNote 4 = .ok (.iload_n 1, 1) := by decide +kernel
theorem dX12_isNote_5 : decode cX12_isNote 5 = .ok (.aload_n 0, 1) := by decide +kernel
theorem dX12_isNote_6 : decode cX12_isNote 6 = .ok (.getfield 328, 3) := by decide +kernel
theorem dX12_isNote_9 : decode cX12_isNote 9 = .ok (.if_icmp .ge 7, 3) := by decide +kernel
theorem dX12_isNote_12 : decode cX12_isNote 12 = .ok (.iconst 1, 1) := by decide +kernel
theorem dX12_isNote_13 : decode cX12_isNote 13 = .ok (.goto 4, 3) := by decide +kernel
theorem dX12_isNote_16 : decode cX12_isNote 16 = .ok (.iconst 0, 1) := by decide +kernel
theorem dX12_isNote_17 : decode cX12_isNote 17 = .ok (.ireturn, 1) := by decide +kernel
theorem dX12_isLiveOn_0 : decode cX12_isLiveOn 0 = .ok (.aload_n 0, 1) := by decide +kernel
theorem dX12_isLiveOn_1 : decode cX12_isLiveOn 1 = .ok (.getfield 84, 3) := by decide +kernel
theorem dX12_isLiveOn_4 : decode cX12_isLiveOn 4 = .ok (.iload_n 1, 1) := by decide +kernel
theorem dX12_isLiveOn_5 : decode cX12_isLiveOn 5 = .ok (.iaload, 1) := by decide +kernel
theorem dX12_isLiveOn_6 : decode cX12_isLiveOn 6 = .ok (.ifCond .le 27, 3) := by decide +kernel
theorem dX12_isLiveOn_9 : decode cX12_isLiveOn 9 = .ok (.aload_n 0, 1) := by decide +kernel
theorem dX12_isLiveOn_10 : decode cX12_isLiveOn 10 = .ok (.getfield 90, 3) := by decide +kernel
theorem dX12_isLiveOn_13 : decode cX12_isLiveOn 13 = .ok (.iload_n 1, 1) := by decide +kernel
theorem dX12_isLiveOn_14 : decode cX12_isLiveOn 14 = .ok (.iaload, 1) := by decide +kernel
theorem dX12_isLiveOn_15 : decode cX12_isLiveOn 15 = .ok (.iconst (-1), 1) := by decide +kernel
theorem dX12_isLiveOn_16 : decode cX12_isLiveOn 16 = .ok (.if_icmp .eq 13, 3) := by decide +kernel
theorem dX12_isLiveOn_19 : decode cX12_isLiveOn 19 = .ok (.iload_n 2, 1) := by decide +kernel
theorem dX12_isLiveOn_20 : decode cX12_isLiveOn 20 = .ok (.aload_n 0, 1) := by decide +kernel
theorem dX12_isLiveOn_21 : decode cX12_isLiveOn 21 = .ok (.getfield 90, 3) := by decide +kernel
theorem dX12_isLiveOn_24 : decode cX12_isLiveOn 24 = .ok (.iload_n 1, 1) := by decide +kernel
theorem dX12_isLiveOn_25 : decode cX12_isLiveOn 25 = .ok (.iaload, 1) := by decide +kernel
theorem dX12_isLiveOn_26 : decode cX12_isLiveOn 26 = .ok (.if_icmp .ge 7, 3) := by decide +kernel
theorem dX12_isLiveOn_29 : decode cX12_isLiveOn 29 = .ok (.iconst 1, 1) := by decide +kernel
theorem dX12_isLiveOn_30 : decode cX12_isLiveOn 30 = .ok (.goto 4, 3) := by decide +kernel
theorem dX12_isLiveOn_33 : decode cX12_isLiveOn 33 = .ok (.iconst 0, 1) := by decide +kernel
theorem dX12_isLiveOn_34 : decode cX12_isLiveOn 34 = .ok (.ireturn, 1) := by decide +kernel
theorem dX12_isLive_0 : decode cX12_isLive 0 = .ok (.aload_n 0, 1) := by decide +kernel
theorem dX12_isLive_1 : decode cX12_isLive 1 = .ok (.iload_n 1, 1) := by decide +kernel
theorem dX12_isLive_2 : decode cX12_isLive 2 = .ok (.invokevirtual 342, 3) := by decide +kernel
theorem dX12_isLive_5 : decode cX12_isLive 5 = .ok (.ifCond .eq 19, 3) := by decide +kernel
theorem dX12_isLive_8 : decode cX12_isLive 8 = .ok (.aload_n 0, 1) := by decide +kernel
theorem dX12_isLive_9 : decode cX12_isLive 9 = .ok (.iload_n 1, 1) := by decide +kernel
theorem dX12_isLive_10 : decode cX12_isLive 10 = .ok (.aload_n 0, 1) := by decide +kernel
theorem dX12_isLive_11 : decode cX12_isLive 11 = .ok (.getfield 165, 3) := by decide +kernel
theorem dX12_isLive_14 : decode cX12_isLive 14 = .ok (.invokevirtual 345, 3) := by decide +kernel
theorem dX12_isLive_17 : decode cX12_isLive 17 = .ok (.ifCond .eq 7, 3) := by decide +kernel
theorem dX12_isLive_20 : decode cX12_isLive 20 = .ok (.iconst 1, 1) := by decide +kernel
theorem dX12_isLive_21 : decode cX12_isLive 21 = .ok (.goto 4, 3) := by decide +kernel
theorem dX12_isLive_24 : decode cX12_isLive 24 = .ok (.iconst 0, 1) := by decide +kernel
theorem dX12_isLive_25 : decode cX12_isLive 25 = .ok (.ireturn, 1) := by decide +kernel
theorem dX12_noteIs_0 : decode cX12_noteIs 0 = .ok (.aload_n 0, 1) := by decide +kernel
theorem dX12_noteIs_1 : decode cX12_noteIs 1 = .ok (.iload_n 1, 1) := by decide +kernel
theorem dX12_noteIs_2 : decode cX12_noteIs 2 = .ok (.invokevirtual 342, 3) := by decide +kernel
theorem dX12_noteIs_5 : decode cX12_noteIs 5 = .ok (.ifCond .ne 7, 3) := by decide +kernel
theorem dX12_noteIs_8 : decode cX12_noteIs 8 = .ok (.sipush (-1000), 3) := by decide +kernel
theorem dX12_noteIs_11 : decode cX12_noteIs 11 = .ok (.ireturn, 1) := by decide +kernel
theorem dX12_noteIs_12 : decode cX12_noteIs 12 = .ok (.iload_n 2, 1) := by decide +kernel
theorem dX12_noteIs_13 : decode cX12_noteIs 13 = .ok (.tableswitch 88 0 5 #[39, 46, 53, 60, 67, 74], 39) := by decide +kernel
theorem dX12_noteIs_52 : decode cX12_noteIs 52 = .ok (.aload_n 0, 1) := by decide +kernel
theorem dX12_noteIs_53 : decode cX12_noteIs 53 = .ok (.getfield 78, 3) := by decide +kernel
theorem dX12_noteIs_56 : decode cX12_noteIs 56 = .ok (.iload_n 1, 1) := by decide +kernel
theorem dX12_noteIs_57 : decode cX12_noteIs 57 = .ok (.iaload, 1) := by decide +kernel
theorem dX12_noteIs_58 : decode cX12_noteIs 58 = .ok (.ireturn, 1) := by decide +kernel
theorem dX12_noteIs_59 : decode cX12_noteIs 59 = .ok (.aload_n 0, 1) := by decide +kernel
theorem dX12_noteIs_60 : decode cX12_noteIs 60 = .ok (.getfield 81, 3) := by decide +kernel
theorem dX12_noteIs_63 : decode cX12_noteIs 63 = .ok (.iload_n 1, 1) := by decide +kernel
theorem dX12_noteIs_64 : decode cX12_noteIs 64 = .ok (.iaload, 1) := by decide +kernel
theorem dX12_noteIs_65 : decode cX12_noteIs 65 = .ok (.ireturn, 1) := by decide +kernel
theorem dX12_noteIs_66 : decode cX12_noteIs 66 = .ok (.aload_n 0, 1) := by decide +kernel
theorem dX12_noteIs_67 : decode cX12_noteIs 67 = .ok (.getfield 84, 3) := by decide +kernel
theorem dX12_noteIs_70 : decode cX12_noteIs 70 = .ok (.iload_n 1, 1) := by decide +kernel
theorem dX12_noteIs_71 : decode cX12_noteIs 71 = .ok (.iaload, 1) := by decide +kernel
theorem dX12_noteIs_72 : decode cX12_noteIs 72 = .ok (.ireturn, 1) := by decide +kernel
theorem dX12_noteIs_73 : decode cX12_noteIs 73 = .ok (.aload_n 0, 1) := by decide +kernel
theorem dX12_noteIs_74 : decode cX12_noteIs 74 = .ok (.getfield 87, 3) := by decide +kernel
theorem dX12_noteIs_77 : decode cX12_noteIs 77 = .ok (.iload_n 1, 1) := by decide +kernel
theorem dX12_noteIs_78 : decode cX12_noteIs 78 = .ok (.iaload, 1) := by decide +kernel
theorem dX12_noteIs_79 : decode cX12_noteIs 79 = .ok (.ireturn, 1) := by decide +kernel
theorem dX12_noteIs_80 : decode cX12_noteIs 80 = .ok (.aload_n 0, 1) := by decide +kernel
theorem dX12_noteIs_81 : decode cX12_noteIs 81 = .ok (.getfield 90, 3) := by decide +kernel
theorem dX12_noteIs_84 : decode cX12_noteIs 84 = .ok (.iload_n 1, 1) := by decide +kernel
theorem dX12_noteIs_85 : decode cX12_noteIs 85 = .ok (.iaload, 1) := by decide +kernel
theorem dX12_noteIs_86 : decode cX12_noteIs 86 = .ok (.ireturn, 1) := by decide +kernel
theorem dX12_noteIs_87 : decode cX12_noteIs 87 = .ok (.aload_n 0, 1) := by decide +kernel
theorem dX12_noteIs_88 : decode cX12_noteIs 88 = .ok (.iload_n 1, 1) := by decide +kernel
theorem dX12_noteIs_89 : decode cX12_noteIs 89 = .ok (.invokevirtual 348, 3) := by decide +kernel
theorem dX12_noteIs_92 : decode cX12_noteIs 92 = .ok (.ifCond .eq 7, 3) := by decide +kernel
theorem dX12_noteIs_95 : decode cX12_noteIs 95 = .ok (.iconst 1, 1) := by decide +kernel
theorem dX12_noteIs_96 : decode cX12_noteIs 96 = .ok (.goto 4, 3) := by decide +kernel
theorem dX12_noteIs_99 : decode cX12_noteIs 99 = .ok (.iconst 0, 1) := by decide +kernel
theorem dX12_noteIs_100 : decode cX12_noteIs 100 = .ok (.ireturn, 1) := by decide +kernel
theorem dX12_noteIs_101 : decode cX12_noteIs 101 = .ok (.sipush (-1000), 3) := by decide +kernel
theorem dX12_noteIs_104 : decode cX12_noteIs 104 = .ok (.ireturn, 1) := by decide +kernel
theorem dX12_hand_0 : decode cX12_hand 0 = .ok (.aload_n 0, 1) := by decide +kernel
theorem dX12_hand_1 : decode cX12_hand 1 = .ok (.iload_n 1, 1) := by decide +kernel
theorem dX12_hand_2 : decode cX12_hand 2 = .ok (.invokevirtual 348, 3) := by decide +kernel
theorem dX12_hand_5 : decode cX12_hand 5 = .ok (.ifCond .eq 20, 3) := by decide +kernel
theorem dX12_hand_8 : decode cX12_hand 8 = .ok (.iload_n 2, 1) := by decide +kernel
theorem dX12_hand_9 : decode cX12_hand 9 = .ok (.invokestatic 162, 3) := by decide +kernel
theorem dX12_hand_12 : decode cX12_hand 12 = .ok (.ifCond .eq 13, 3) := by decide +kernel
theorem dX12_hand_15 : decode cX12_hand 15 = .ok (.aload_n 0, 1) := by decide +kernel
theorem dX12_hand_16 : decode cX12_hand 16 = .ok (.getfield 81, 3) := by decide +kernel
theorem dX12_hand_19 : decode cX12_hand 19 = .ok (.iload_n 1, 1) := by decide +kernel
theorem dX12_hand_20 : decode cX12_hand 20 = .ok (.iaload, 1) := by decide +kernel
theorem dX12_hand_21 : decode cX12_hand 21 = .ok (.iload_n 2, 1) := by decide +kernel
theorem dX12_hand_22 : decode cX12_hand 22 = .ok (.if_icmp .ne 5, 3) := by decide +kernel
theorem dX12_hand_25 : decode cX12_hand 25 = .ok (.iconst 0, 1) := by decide +kernel
theorem dX12_hand_26 : decode cX12_hand 26 = .ok (.ireturn, 1) := by decide +kernel
theorem dX12_hand_27 : decode cX12_hand 27 = .ok (.aload_n 0, 1) := by decide +kernel
theorem dX12_hand_28 : decode cX12_hand 28 = .ok (.getfield 81, 3) := by decide +kernel
theorem dX12_hand_31 : decode cX12_hand 31 = .ok (.iload_n 1, 1) := by decide +kernel
theorem dX12_hand_32 : decode cX12_hand 32 = .ok (.iload_n 2, 1) := by decide +kernel
theorem dX12_hand_33 : decode cX12_hand 33 = .ok (.iastore, 1) := by decide +kernel
theorem dX12_hand_34 : decode cX12_hand 34 = .ok (.aload_n 0, 1) := by decide +kernel
theorem dX12_hand_35 : decode cX12_hand 35 = .ok (.getfield 84, 3) := by decide +kernel
theorem dX12_hand_38 : decode cX12_hand 38 = .ok (.iload_n 1, 1) := by decide +kernel
theorem dX12_hand_39 : decode cX12_hand 39 = .ok (.aload_n 0, 1) := by decide +kernel
theorem dX12_hand_40 : decode cX12_hand 40 = .ok (.getfield 78, 3) := by decide +kernel
theorem dX12_hand_43 : decode cX12_hand 43 = .ok (.iload_n 1, 1) := by decide +kernel
theorem dX12_hand_44 : decode cX12_hand 44 = .ok (.iaload, 1) := by decide +kernel
theorem dX12_hand_45 : decode cX12_hand 45 = .ok (.iload_n 2, 1) := by decide +kernel
theorem dX12_hand_46 : decode cX12_hand 46 = .ok (.if_icmp .ne 7, 3) := by decide +kernel
theorem dX12_hand_49 : decode cX12_hand 49 = .ok (.iconst 0, 1) := by decide +kernel
theorem dX12_hand_50 : decode cX12_hand 50 = .ok (.goto 9, 3) := by decide +kernel
theorem dX12_hand_53 : decode cX12_hand 53 = .ok (.aload_n 0, 1) := by decide +kernel
theorem dX12_hand_54 : decode cX12_hand 54 = .ok (.getfield 84, 3) := by decide +kernel
theorem dX12_hand_57 : decode cX12_hand 57 = .ok (.iload_n 1, 1) := by decide +kernel
theorem dX12_hand_58 : decode cX12_hand 58 = .ok (.iaload, 1) := by decide +kernel
theorem dX12_hand_59 : decode cX12_hand 59 = .ok (.iastore, 1) := by decide +kernel
theorem dX12_hand_60 : decode cX12_hand 60 = .ok (.iconst 1, 1) := by decide +kernel
theorem dX12_hand_61 : decode cX12_hand 61 = .ok (.ireturn, 1) := by decide +kernel
theorem dX12_cut_0 : decode cX12_cut 0 = .ok (.aload_n 0, 1) := by decide +kernel
theorem dX12_cut_1 : decode cX12_cut 1 = .ok (.iload_n 1, 1) := by decide +kernel
theorem dX12_cut_2 : decode cX12_cut 2 = .ok (.invokevirtual 348, 3) := by decide +kernel
theorem dX12_cut_5 : decode cX12_cut 5 = .ok (.ifCond .eq 27, 3) := by decide +kernel
theorem dX12_cut_8 : decode cX12_cut 8 = .ok (.iload_n 2, 1) := by decide +kernel
theorem dX12_cut_9 : decode cX12_cut 9 = .ok (.iconst 1, 1) := by decide +kernel
theorem dX12_cut_10 : decode cX12_cut 10 = .ok (.if_icmp .lt 22, 3) := by decide +kernel
theorem dX12_cut_13 : decode cX12_cut 13 = .ok (.aload_n 0, 1) := by decide +kernel
theorem dX12_cut_14 : decode cX12_cut 14 = .ok (.getfield 84, 3) := by decide +kernel
theorem dX12_cut_17 : decode cX12_cut 17 = .ok (.iload_n 1, 1) := by decide +kernel
theorem dX12_cut_18 : decode cX12_cut 18 = .ok (.iaload, 1) := by decide +kernel
theorem dX12_cut_19 : decode cX12_cut 19 = .ok (.iload_n 2, 1) := by decide +kernel
theorem dX12_cut_20 : decode cX12_cut 20 = .ok (.if_icmp .le 12, 3) := by decide +kernel
theorem dX12_cut_23 : decode cX12_cut 23 = .ok (.aload_n 0, 1) := by decide +kernel
theorem dX12_cut_24 : decode cX12_cut 24 = .ok (.getfield 328, 3) := by decide +kernel
theorem dX12_cut_27 : decode cX12_cut 27 = .ok (.bipush 60, 2) := by decide +kernel
theorem dX12_cut_29 : decode cX12_cut 29 = .ok (.if_icmp .ne 5, 3) := by decide +kernel
theorem dX12_cut_32 : decode cX12_cut 32 = .ok (.iconst (-1), 1) := by decide +kernel
theorem dX12_cut_33 : decode cX12_cut 33 = .ok (.ireturn, 1) := by decide +kernel
theorem dX12_cut_34 : decode cX12_cut 34 = .ok (.aload_n 0, 1) := by decide +kernel
theorem dX12_cut_35 : decode cX12_cut 35 = .ok (.getfield 84, 3) := by decide +kernel
theorem dX12_cut_38 : decode cX12_cut 38 = .ok (.iload_n 1, 1) := by decide +kernel
theorem dX12_cut_39 : decode cX12_cut 39 = .ok (.aload_n 0, 1) := by decide +kernel
theorem dX12_cut_40 : decode cX12_cut 40 = .ok (.getfield 84, 3) := by decide +kernel
theorem dX12_cut_43 : decode cX12_cut 43 = .ok (.iload_n 1, 1) := by decide +kernel
theorem dX12_cut_44 : decode cX12_cut 44 = .ok (.iaload, 1) := by decide +kernel
theorem dX12_cut_45 : decode cX12_cut 45 = .ok (.iload_n 2, 1) := by decide +kernel
theorem dX12_cut_46 : decode cX12_cut 46 = .ok (.isub, 1) := by decide +kernel
theorem dX12_cut_47 : decode cX12_cut 47 = .ok (.iastore, 1) := by decide +kernel
theorem dX12_cut_48 : decode cX12_cut 48 = .ok (.aload_n 0, 1) := by decide +kernel
theorem dX12_cut_49 : decode cX12_cut 49 = .ok (.aload_n 0, 1) := by decide +kernel
theorem dX12_cut_50 : decode cX12_cut 50 = .ok (.getfield 78, 3) := by decide +kernel
theorem dX12_cut_53 : decode cX12_cut 53 = .ok (.iload_n 1, 1) := by decide +kernel
theorem dX12_cut_54 : decode cX12_cut 54 = .ok (.iaload, 1) := by decide +kernel
theorem dX12_cut_55 : decode cX12_cut 55 = .ok (.aload_n 0, 1) := by decide +kernel
theorem dX12_cut_56 : decode cX12_cut 56 = .ok (.getfield 81, 3) := by decide +kernel
theorem dX12_cut_59 : decode cX12_cut 59 = .ok (.iload_n 1, 1) := by decide +kernel
theorem dX12_cut_60 : decode cX12_cut 60 = .ok (.iaload, 1) := by decide +kernel
theorem dX12_cut_61 : decode cX12_cut 61 = .ok (.iload_n 2, 1) := by decide +kernel
theorem dX12_cut_62 : decode cX12_cut 62 = .ok (.aload_n 0, 1) := by decide +kernel
theorem dX12_cut_63 : decode cX12_cut 63 = .ok (.getfield 87, 3) := by decide +kernel
theorem dX12_cut_66 : decode cX12_cut 66 = .ok (.iload_n 1, 1) := by decide +kernel
theorem dX12_cut_67 : decode cX12_cut 67 = .ok (.iaload, 1) := by decide +kernel
theorem dX12_cut_68 : decode cX12_cut 68 = .ok (.aload_n 0, 1) := by decide +kernel
theorem dX12_cut_69 : decode cX12_cut 69 = .ok (.getfield 90, 3) := by decide +kernel
theorem dX12_cut_72 : decode cX12_cut 72 = .ok (.iload_n 1, 1) := by decide +kernel
theorem dX12_cut_73 : decode cX12_cut 73 = .ok (.iaload, 1) := by decide +kernel
theorem dX12_cut_74 : decode cX12_cut 74 = .ok (.invokevirtual 331, 3) := by decide +kernel
theorem dX12_cut_77 : decode cX12_cut 77 = .ok (.aload_n 0, 1) := by decide +kernel
theorem dX12_cut_78 : decode cX12_cut 78 = .ok (.getfield 328, 3) := by decide +kernel
theorem dX12_cut_81 : decode cX12_cut 81 = .ok (.iconst 1, 1) := by decide +kernel
theorem dX12_cut_82 : decode cX12_cut 82 = .ok (.isub, 1) := by decide +kernel
theorem dX12_cut_83 : decode cX12_cut 83 = .ok (.ireturn, 1) := by decide +kernel
theorem dX12_take_0 : decode cX12_take 0 = .ok (.aload_n 0, 1) := by decide +kernel
theorem dX12_take_1 : decode cX12_take 1 = .ok (.iload_n 1, 1) := by decide +kernel
theorem dX12_take_2 : decode cX12_take 2 = .ok (.invokevirtual 348, 3) := by decide +kernel
theorem dX12_take_5 : decode cX12_take 5 = .ok (.ifCond .eq 33, 3) := by decide +kernel
theorem dX12_take_8 : decode cX12_take 8 = .ok (.iload_n 2, 1) := by decide +kernel
theorem dX12_take_9 : decode cX12_take 9 = .ok (.iconst 1, 1) := by decide +kernel
theorem dX12_take_10 : decode cX12_take 10 = .ok (.bipush 60, 2) := by decide +kernel
theorem dX12_take_12 : decode cX12_take 12 = .ok (.invokestatic 168, 3) := by decide +kernel
theorem dX12_take_15 : decode cX12_take 15 = .ok (.ifCond .eq 23, 3) := by decide +kernel
theorem dX12_take_18 : decode cX12_take 18 = .ok (.aload_n 0, 1) := by decide +kernel
theorem dX12_take_19 : decode cX12_take 19 = .ok (.getfield 84, 3) := by decide +kernel
theorem dX12_take_22 : decode cX12_take 22 = .ok (.iload_n 1, 1) := by decide +kernel
theorem dX12_take_23 : decode cX12_take 23 = .ok (.iaload, 1) := by decide +kernel
theorem dX12_take_24 : decode cX12_take 24 = .ok (.iload_n 2, 1) := by decide +kernel
theorem dX12_take_25 : decode cX12_take 25 = .ok (.if_icmp .lt 13, 3) := by decide +kernel
theorem dX12_take_28 : decode cX12_take 28 = .ok (.iload_n 3, 1) := by decide +kernel
theorem dX12_take_29 : decode cX12_take 29 = .ok (.iconst 0, 1) := by decide +kernel
theorem dX12_take_30 : decode cX12_take 30 = .ok (.bipush 23, 2) := by decide +kernel
theorem dX12_take_32 : decode cX12_take 32 = .ok (.invokestatic 168, 3) := by decide +kernel
theorem dX12_take_35 : decode cX12_take 35 = .ok (.ifCond .ne 5, 3) := by decide +kernel
theorem dX12_take_38 : decode cX12_take 38 = .ok (.iconst (-1), 1) := by decide +kernel
theorem dX12_take_39 : decode cX12_take 39 = .ok (.ireturn, 1) := by decide +kernel
theorem dX12_take_40 : decode cX12_take 40 = .ok (.bipush 24, 2) := by decide +kernel
theorem dX12_take_42 : decode cX12_take 42 = .ok (.aload_n 0, 1) := by decide +kernel
theorem dX12_take_43 : decode cX12_take 43 = .ok (.getfield 78, 3) := by decide +kernel
theorem dX12_take_46 : decode cX12_take 46 = .ok (.iload_n 1, 1) := by decide +kernel
theorem dX12_take_47 : decode cX12_take 47 = .ok (.iaload, 1) := by decide +kernel
theorem dX12_take_48 : decode cX12_take 48 = .ok (.imul, 1) := by decide +kernel
theorem dX12_take_49 : decode cX12_take 49 = .ok (.iload_n 3, 1) := by decide +kernel
theorem dX12_take_50 : decode cX12_take 50 = .ok (.iadd, 1) := by decide +kernel
theorem dX12_take_51 : decode cX12_take 51 = .ok (.istore 4, 2) := by decide +kernel
theorem dX12_take_53 : decode cX12_take 53 = .ok (.bipush 24, 2) := by decide +kernel
theorem dX12_take_55 : decode cX12_take 55 = .ok (.aload_n 0, 1) := by decide +kernel
theorem dX12_take_56 : decode cX12_take 56 = .ok (.getfield 81, 3) := by decide +kernel
theorem dX12_take_59 : decode cX12_take 59 = .ok (.iload_n 1, 1) := by decide +kernel
theorem dX12_take_60 : decode cX12_take 60 = .ok (.iaload, 1) := by decide +kernel
theorem dX12_take_61 : decode cX12_take 61 = .ok (.imul, 1) := by decide +kernel
theorem dX12_take_62 : decode cX12_take 62 = .ok (.iload_n 3, 1) := by decide +kernel
theorem dX12_take_63 : decode cX12_take 63 = .ok (.iadd, 1) := by decide +kernel
theorem dX12_take_64 : decode cX12_take 64 = .ok (.istore 5, 2) := by decide +kernel
theorem dX12_take_66 : decode cX12_take 66 = .ok (.aload_n 0, 1) := by decide +kernel
theorem dX12_take_67 : decode cX12_take 67 = .ok (.getfield 96, 3) := by decide +kernel
theorem dX12_take_70 : decode cX12_take 70 = .ok (.iload 4, 2) := by decide +kernel
theorem dX12_take_72 : decode cX12_take 72 = .ok (.iaload, 1) := by decide +kernel
theorem dX12_take_73 : decode cX12_take 73 = .ok (.iload_n 2, 1) := by decide +kernel
theorem dX12_take_74 : decode cX12_take 74 = .ok (.iadd, 1) := by decide +kernel
theorem dX12_take_75 : decode cX12_take 75 = .ok (.bipush 60, 2) := by decide +kernel
theorem dX12_take_77 : decode cX12_take 77 = .ok (.if_icmp .gt 17, 3) := by decide +kernel
theorem dX12_take_80 : decode cX12_take 80 = .ok (.aload_n 0, 1) := by decide +kernel
theorem dX12_take_81 : decode cX12_take 81 = .ok (.getfield 93, 3) := by decide +kernel
theorem dX12_take_84 : decode cX12_take 84 = .ok (.iload 5, 2) := by decide +kernel
theorem dX12_take_86 : decode cX12_take 86 = .ok (.iaload, 1) := by decide +kernel
theorem dX12_take_87 : decode cX12_take 87 = .ok (.iload_n 2, 1) := by decide +kernel
theorem dX12_take_88 : decode cX12_take 88 = .ok (.iadd, 1) := by decide +kernel
theorem dX12_take_89 : decode cX12_take 89 = .ok (.bipush 60, 2) := by decide +kernel
theorem dX12_take_91 : decode cX12_take 91 = .ok (.if_icmp .le 5, 3) := by decide +kernel
theorem dX12_take_94 : decode cX12_take 94 = .ok (.iconst (-1), 1) := by decide +kernel
theorem dX12_take_95 : decode cX12_take 95 = .ok (.ireturn, 1) := by decide +kernel
theorem dX12_take_96 : decode cX12_take 96 = .ok (.aload_n 0, 1) := by decide +kernel
theorem dX12_take_97 : decode cX12_take 97 = .ok (.getfield 96, 3) := by decide +kernel
theorem dX12_take_100 : decode cX12_take 100 = .ok (.iload 4, 2) := by decide +kernel
theorem dX12_take_102 : decode cX12_take 102 = .ok (.aload_n 0, 1) := by decide +kernel
theorem dX12_take_103 : decode cX12_take 103 = .ok (.getfield 96, 3) := by decide +kernel
theorem dX12_take_106 : decode cX12_take 106 = .ok (.iload 4, 2) := by decide +kernel
theorem dX12_take_108 : decode cX12_take 108 = .ok (.iaload, 1) := by decide +kernel
theorem dX12_take_109 : decode cX12_take 109 = .ok (.iload_n 2, 1) := by decide +kernel
theorem dX12_take_110 : decode cX12_take 110 = .ok (.iadd, 1) := by decide +kernel
theorem dX12_take_111 : decode cX12_take 111 = .ok (.iastore, 1) := by decide +kernel
theorem dX12_take_112 : decode cX12_take 112 = .ok (.aload_n 0, 1) := by decide +kernel
theorem dX12_take_113 : decode cX12_take 113 = .ok (.getfield 93, 3) := by decide +kernel
theorem dX12_take_116 : decode cX12_take 116 = .ok (.iload 5, 2) := by decide +kernel
theorem dX12_take_118 : decode cX12_take 118 = .ok (.aload_n 0, 1) := by decide +kernel
theorem dX12_take_119 : decode cX12_take 119 = .ok (.getfield 93, 3) := by decide +kernel
theorem dX12_take_122 : decode cX12_take 122 = .ok (.iload 5, 2) := by decide +kernel
theorem dX12_take_124 : decode cX12_take 124 = .ok (.iaload, 1) := by decide +kernel
theorem dX12_take_125 : decode cX12_take 125 = .ok (.iload_n 2, 1) := by decide +kernel
theorem dX12_take_126 : decode cX12_take 126 = .ok (.iadd, 1) := by decide +kernel
theorem dX12_take_127 : decode cX12_take 127 = .ok (.iastore, 1) := by decide +kernel
theorem dX12_take_128 : decode cX12_take 128 = .ok (.aload_n 0, 1) := by decide +kernel
theorem dX12_take_129 : decode cX12_take 129 = .ok (.getfield 84, 3) := by decide +kernel
theorem dX12_take_132 : decode cX12_take 132 = .ok (.iload_n 1, 1) := by decide +kernel
theorem dX12_take_133 : decode cX12_take 133 = .ok (.aload_n 0, 1) := by decide +kernel
theorem dX12_take_134 : decode cX12_take 134 = .ok (.getfield 84, 3) := by decide +kernel
theorem dX12_take_137 : decode cX12_take 137 = .ok (.iload_n 1, 1) := by decide +kernel
theorem dX12_take_138 : decode cX12_take 138 = .ok (.iaload, 1) := by decide +kernel
theorem dX12_take_139 : decode cX12_take 139 = .ok (.iload_n 2, 1) := by decide +kernel
theorem dX12_take_140 : decode cX12_take 140 = .ok (.isub, 1) := by decide +kernel
theorem dX12_take_141 : decode cX12_take 141 = .ok (.iastore, 1) := by decide +kernel
theorem dX12_take_142 : decode cX12_take 142 = .ok (.aload_n 0, 1) := by decide +kernel
theorem dX12_take_143 : decode cX12_take 143 = .ok (.getfield 84, 3) := by decide +kernel
theorem dX12_take_146 : decode cX12_take 146 = .ok (.iload_n 1, 1) := by decide +kernel
theorem dX12_take_147 : decode cX12_take 147 = .ok (.iaload, 1) := by decide +kernel
theorem dX12_take_148 : decode cX12_take 148 = .ok (.ireturn, 1) := by decide +kernel
theorem dX12_owed_0 : decode cX12_owed 0 = .ok (.iload_n 1, 1) := by decide +kernel
theorem dX12_owed_1 : decode cX12_owed 1 = .ok (.iconst (-1), 1) := by decide +kernel
theorem dX12_owed_2 : decode cX12_owed 2 = .ok (.if_icmp .eq 10, 3) := by decide +kernel
theorem dX12_owed_5 : decode cX12_owed 5 = .ok (.iload_n 1, 1) := by decide +kernel
theorem dX12_owed_6 : decode cX12_owed 6 = .ok (.invokestatic 162, 3) := by decide +kernel
theorem dX12_owed_9 : decode cX12_owed 9 = .ok (.ifCond .eq 25, 3) := by decide +kernel
theorem dX12_owed_12 : decode cX12_owed 12 = .ok (.iload_n 2, 1) := by decide +kernel
theorem dX12_owed_13 : decode cX12_owed 13 = .ok (.iconst (-1), 1) := by decide +kernel
theorem dX12_owed_14 : decode cX12_owed 14 = .ok (.if_icmp .eq 10, 3) := by decide +kernel
theorem dX12_owed_17 : decode cX12_owed 17 = .ok (.iload_n 2, 1) := by decide +kernel
theorem dX12_owed_18 : decode cX12_owed 18 = .ok (.invokestatic 162, 3) := by decide +kernel
theorem dX12_owed_21 : decode cX12_owed 21 = .ok (.ifCond .eq 13, 3) := by decide +kernel
theorem dX12_owed_24 : decode cX12_owed 24 = .ok (.iload_n 1, 1) := by decide +kernel
theorem dX12_owed_25 : decode cX12_owed 25 = .ok (.iconst (-1), 1) := by decide +kernel
theorem dX12_owed_26 : decode cX12_owed 26 = .ok (.if_icmp .eq 10, 3) := by decide +kernel
theorem dX12_owed_29 : decode cX12_owed 29 = .ok (.iload_n 1, 1) := by decide +kernel
theorem dX12_owed_30 : decode cX12_owed 30 = .ok (.iload_n 2, 1) := by decide +kernel
theorem dX12_owed_31 : decode cX12_owed 31 = .ok (.if_icmp .ne 5, 3) := by decide +kernel
theorem dX12_owed_34 : decode cX12_owed 34 = .ok (.iconst (-1), 1) := by decide +kernel
theorem dX12_owed_35 : decode cX12_owed 35 = .ok (.ireturn, 1) := by decide +kernel
theorem dX12_owed_36 : decode cX12_owed 36 = .ok (.iconst 0, 1) := by decide +kernel
theorem dX12_owed_37 : decode cX12_owed 37 = .ok (.istore_n 3, 1) := by decide +kernel
theorem dX12_owed_38 : decode cX12_owed 38 = .ok (.iconst 0, 1) := by decide +kernel
theorem dX12_owed_39 : decode cX12_owed 39 = .ok (.istore 4, 2) := by decide +kernel
theorem dX12_owed_41 : decode cX12_owed 41 = .ok (.iload 4, 2) := by decide +kernel
theorem dX12_owed_43 : decode cX12_owed 43 = .ok (.aload_n 0, 1) := by decide +kernel
theorem dX12_owed_44 : decode cX12_owed 44 = .ok (.getfield 328, 3) := by decide +kernel
theorem dX12_owed_47 : decode cX12_owed 47 = .ok (.if_icmp .ge 64, 3) := by decide +kernel
theorem dX12_owed_50 : decode cX12_owed 50 = .ok (.iload_n 3, 1) := by decide +kernel
theorem dX12_owed_51 : decode cX12_owed 51 = .ok (.aload_n 0, 1) := by decide +kernel
theorem dX12_owed_52 : decode cX12_owed 52 = .ok (.iload 4, 2) := by decide +kernel
theorem dX12_owed_54 : decode cX12_owed 54 = .ok (.invokevirtual 348, 3) := by decide +kernel
theorem dX12_owed_57 : decode cX12_owed 57 = .ok (.ifCond .eq 45, 3) := by decide +kernel
theorem dX12_owed_60 : decode cX12_owed 60 = .ok (.iload_n 1, 1) := by decide +kernel
theorem dX12_owed_61 : decode cX12_owed 61 = .ok (.iconst (-1), 1) := by decide +kernel
theorem dX12_owed_62 : decode cX12_owed 62 = .ok (.if_icmp .eq 14, 3) := by decide +kernel
theorem dX12_owed_65 : decode cX12_owed 65 = .ok (.aload_n 0, 1) := by decide +kernel
theorem dX12_owed_66 : decode cX12_owed 66 = .ok (.getfield 78, 3) := by decide +kernel
theorem dX12_owed_69 : decode cX12_owed 69 = .ok (.iload 4, 2) := by decide +kernel
theorem dX12_owed_71 : decode cX12_owed 71 = .ok (.iaload, 1) := by decide +kernel
theorem dX12_owed_72 : decode cX12_owed 72 = .ok (.iload_n 1, 1) := by decide +kernel
theorem dX12_owed_73 : decode cX12_owed 73 = .ok (.if_icmp .ne 29, 3) := by decide +kernel
theorem dX12_owed_76 : decode cX12_owed 76 = .ok (.iload_n 2, 1) := by decide +kernel
theorem dX12_owed_77 : decode cX12_owed 77 = .ok (.iconst (-1), 1) := by decide +kernel
theorem dX12_owed_78 : decode cX12_owed 78 = .ok (.if_icmp .eq 14, 3) := by decide +kernel
theorem dX12_owed_81 : decode cX12_owed 81 = .ok (.aload_n 0, 1) := by decide +kernel
theorem dX12_owed_82 : decode cX12_owed 82 = .ok (.getfield 81, 3) := by decide +kernel
theorem dX12_owed_85 : decode cX12_owed 85 = .ok (.iload 4, 2) := by decide +kernel
theorem dX12_owed_87 : decode cX12_owed 87 = .ok (.iaload, 1) := by decide +kernel
theorem dX12_owed_88 : decode cX12_owed 88 = .ok (.iload_n 2, 1) := by decide +kernel
theorem dX12_owed_89 : decode cX12_owed 89 = .ok (.if_icmp .ne 13, 3) := by decide +kernel
theorem dX12_owed_92 : decode cX12_owed 92 = .ok (.aload_n 0, 1) := by decide +kernel
theorem dX12_owed_93 : decode cX12_owed 93 = .ok (.getfield 84, 3) := by decide +kernel
theorem dX12_owed_96 : decode cX12_owed 96 = .ok (.iload 4, 2) := by decide +kernel
theorem dX12_owed_98 : decode cX12_owed 98 = .ok (.iaload, 1) := by decide +kernel
theorem dX12_owed_99 : decode cX12_owed 99 = .ok (.goto 4, 3) := by decide +kernel
theorem dX12_owed_102 : decode cX12_owed 102 = .ok (.iconst 0, 1) := by decide +kernel
theorem dX12_owed_103 : decode cX12_owed 103 = .ok (.iadd, 1) := by decide +kernel
theorem dX12_owed_104 : decode cX12_owed 104 = .ok (.istore_n 3, 1) := by decide +kernel
theorem dX12_owed_105 : decode cX12_owed 105 = .ok (.iinc 4 1, 3) := by decide +kernel
theorem dX12_owed_108 : decode cX12_owed 108 = .ok (.goto (-67), 3) := by decide +kernel
theorem dX12_owed_111 : decode cX12_owed 111 = .ok (.iload_n 3, 1) := by decide +kernel
theorem dX12_owed_112 : decode cX12_owed 112 = .ok (.ireturn, 1) := by decide +kernel
theorem dX12_dearest_0 : decode cX12_dearest 0 = .ok (.iconst (-1), 1) := by decide +kernel
theorem dX12_dearest_1 : decode cX12_dearest 1 = .ok (.istore_n 3, 1) := by decide +kernel
theorem dX12_dearest_2 : decode cX12_dearest 2 = .ok (.iconst 0, 1) := by decide +kernel
theorem dX12_dearest_3 : decode cX12_dearest 3 = .ok (.istore 4, 2) := by decide +kernel
theorem dX12_dearest_5 : decode cX12_dearest 5 = .ok (.iload 4, 2) := by decide +kernel
theorem dX12_dearest_7 : decode cX12_dearest 7 = .ok (.bipush 24, 2) := by decide +kernel
theorem dX12_dearest_9 : decode cX12_dearest 9 = .ok (.iload_n 2, 1) := by decide +kernel
theorem dX12_dearest_10 : decode cX12_dearest 10 = .ok (.imul, 1) := by decide +kernel
theorem dX12_dearest_11 : decode cX12_dearest 11 = .ok (.if_icmp .ge 59, 3) := by decide +kernel
theorem dX12_dearest_14 : decode cX12_dearest 14 = .ok (.aload_n 0, 1) := by decide +kernel
theorem dX12_dearest_15 : decode cX12_dearest 15 = .ok (.getfield 102, 3) := by decide +kernel
theorem dX12_dearest_18 : decode cX12_dearest 18 = .ok (.iload 4, 2) := by decide +kernel
theorem dX12_dearest_20 : decode cX12_dearest 20 = .ok (.baload, 1) := by decide +kernel
theorem dX12_dearest_21 : decode cX12_dearest 21 = .ok (.ifCond .ne 43, 3) := by decide +kernel
theorem dX12_dearest_24 : decode cX12_dearest 24 = .ok (.iload_n 3, 1) := by decide +kernel
theorem dX12_dearest_25 : decode cX12_dearest 25 = .ok (.iconst (-1), 1) := by decide +kernel
theorem dX12_dearest_26 : decode cX12_dearest 26 = .ok (.if_icmp .eq 35, 3) := by decide +kernel
theorem dX12_dearest_29 : decode cX12_dearest 29 = .ok (.aload_n 0, 1) := by decide +kernel
theorem dX12_dearest_30 : decode cX12_dearest 30 = .ok (.getfield 7, 3) := by decide +kernel
theorem dX12_dearest_33 : decode cX12_dearest 33 = .ok (.bipush 24, 2) := by decide +kernel
theorem dX12_dearest_35 : decode cX12_dearest 35 = .ok (.iload_n 1, 1) := by decide +kernel
theorem dX12_dearest_36 : decode cX12_dearest 36 = .ok (.imul, 1) := by decide +kernel
theorem dX12_dearest_37 : decode cX12_dearest 37 = .ok (.iload 4, 2) := by decide +kernel
theorem dX12_dearest_39 : decode cX12_dearest 39 = .ok (.bipush 24, 2) := by decide +kernel
theorem dX12_dearest_41 : decode cX12_dearest 41 = .ok (.irem, 1) := by decide +kernel
theorem dX12_dearest_42 : decode cX12_dearest 42 = .ok (.iadd, 1) := by decide +kernel
theorem dX12_dearest_43 : decode cX12_dearest 43 = .ok (.iaload, 1) := by decide +kernel
theorem dX12_dearest_44 : decode cX12_dearest 44 = .ok (.aload_n 0, 1) := by decide +kernel
theorem dX12_dearest_45 : decode cX12_dearest 45 = .ok (.getfield 7, 3) := by decide +kernel
theorem dX12_dearest_48 : decode cX12_dearest 48 = .ok (.bipush 24, 2) := by decide +kernel
theorem dX12_dearest_50 : decode cX12_dearest 50 = .ok (.iload_n 1, 1) := by decide +kernel
theorem dX12_dearest_51 : decode cX12_dearest 51 = .ok (.imul, 1) := by decide +kernel
theorem dX12_dearest_52 : decode cX12_dearest 52 = .ok (.iload_n 3, 1) := by decide +kernel
theorem dX12_dearest_53 : decode cX12_dearest 53 = .ok (.bipush 24, 2) := by decide +kernel
theorem dX12_dearest_55 : decode cX12_dearest 55 = .ok (.irem, 1) := by decide +kernel
theorem dX12_dearest_56 : decode cX12_dearest 56 = .ok (.iadd, 1) := by decide +kernel
theorem dX12_dearest_57 : decode cX12_dearest 57 = .ok (.iaload, 1) := by decide +kernel
theorem dX12_dearest_58 : decode cX12_dearest 58 = .ok (.if_icmp .le 6, 3) := by decide +kernel
theorem dX12_dearest_61 : decode cX12_dearest 61 = .ok (.iload 4, 2) := by decide +kernel
theorem dX12_dearest_63 : decode cX12_dearest 63 = .ok (.istore_n 3, 1) := by decide +kernel
theorem dX12_dearest_64 : decode cX12_dearest 64 = .ok (.iinc 4 1, 3) := by decide +kernel
theorem dX12_dearest_67 : decode cX12_dearest 67 = .ok (.goto (-62), 3) := by decide +kernel
theorem dX12_dearest_70 : decode cX12_dearest 70 = .ok (.iload_n 3, 1) := by decide +kernel
theorem dX12_dearest_71 : decode cX12_dearest 71 = .ok (.ireturn, 1) := by decide +kernel
theorem dX12_called_0 : decode cX12_called 0 = .ok (.iload_n 1, 1) := by decide +kernel
theorem dX12_called_1 : decode cX12_called 1 = .ok (.invokestatic 162, 3) := by decide +kernel
theorem dX12_called_4 : decode cX12_called 4 = .ok (.ifCond .eq 13, 3) := by decide +kernel
theorem dX12_called_7 : decode cX12_called 7 = .ok (.iload_n 2, 1) := by decide +kernel
theorem dX12_called_8 : decode cX12_called 8 = .ok (.iconst 0, 1) := by decide +kernel
theorem dX12_called_9 : decode cX12_called 9 = .ok (.bipush 6, 2) := by decide +kernel
theorem dX12_called_11 : decode cX12_called 11 = .ok (.invokestatic 168, 3) := by decide +kernel
theorem dX12_called_14 : decode cX12_called 14 = .ok (.ifCond .ne 7, 3) := by decide +kernel
theorem dX12_called_17 : decode cX12_called 17 = .ok (.ldc2_w 351, 3) := by decide +kernel
theorem dX12_called_20 : decode cX12_called 20 = .ok (.lreturn, 1) := by decide +kernel
theorem dX12_called_21 : decode cX12_called 21 = .ok (.aload_n 0, 1) := by decide +kernel
theorem dX12_called_22 : decode cX12_called 22 = .ok (.getfield 165, 3) := by decide +kernel
theorem dX12_called_25 : decode cX12_called 25 = .ok (.iload_n 2, 1) := by decide +kernel
theorem dX12_called_26 : decode cX12_called 26 = .ok (.iadd, 1) := by decide +kernel
theorem dX12_called_27 : decode cX12_called 27 = .ok (.bipush 99, 2) := by decide +kernel
theorem dX12_called_29 : decode cX12_called 29 = .ok (.if_icmp .le 15, 3) := by decide +kernel
theorem dX12_called_32 : decode cX12_called 32 = .ok (.bipush 99, 2) := by decide +kernel
theorem dX12_called_34 : decode cX12_called 34 = .ok (.aload_n 0, 1) := by decide +kernel
theorem dX12_called_35 : decode cX12_called 35 = .ok (.getfield 165, 3) := by decide +kernel
theorem dX12_called_38 : decode cX12_called 38 = .ok (.isub, 1) := by decide +kernel
theorem dX12_called_39 : decode cX12_called 39 = .ok (.iconst 1, 1) := by decide +kernel
theorem dX12_called_40 : decode cX12_called 40 = .ok (.iadd, 1) := by decide +kernel
theorem dX12_called_41 : decode cX12_called 41 = .ok (.goto 6, 3) := by decide +kernel
theorem dX12_called_44 : decode cX12_called 44 = .ok (.iload_n 2, 1) := by decide +kernel
theorem dX12_called_45 : decode cX12_called 45 = .ok (.iconst 1, 1) := by decide +kernel
theorem dX12_called_46 : decode cX12_called 46 = .ok (.iadd, 1) := by decide +kernel
theorem dX12_called_47 : decode cX12_called 47 = .ok (.istore_n 3, 1) := by decide +kernel
theorem dX12_called_48 : decode cX12_called 48 = .ok (.iconst 0, 1) := by decide +kernel
theorem dX12_called_49 : decode cX12_called 49 = .ok (.istore 4, 2) := by decide +kernel
theorem dX12_called_51 : decode cX12_called 51 = .ok (.iload 4, 2) := by decide +kernel
theorem dX12_called_53 : decode cX12_called 53 = .ok (.iload_n 3, 1) := by decide +kernel
theorem dX12_called_54 : decode cX12_called 54 = .ok (.if_icmp .ge 97, 3) := by decide +kernel
theorem dX12_called_57 : decode cX12_called 57 = .ok (.aload_n 0, 1) := by decide +kernel
theorem dX12_called_58 : decode cX12_called 58 = .ok (.getfield 99, 3) := by decide +kernel
theorem dX12_called_61 : decode cX12_called 61 = .ok (.iload 4, 2) := by decide +kernel
theorem dX12_called_63 : decode cX12_called 63 = .ok (.iconst 0, 1) := by decide +kernel
theorem dX12_called_64 : decode cX12_called 64 = .ok (.iastore, 1) := by decide +kernel
theorem dX12_called_65 : decode cX12_called 65 = .ok (.iconst 0, 1) := by decide +kernel
theorem dX12_called_66 : decode cX12_called 66 = .ok (.istore 5, 2) := by decide +kernel
theorem dX12_called_68 : decode cX12_called 68 = .ok (.iload 5, 2) := by decide +kernel
theorem dX12_called_70 : decode cX12_called 70 = .ok (.aload_n 0, 1) := by decide +kernel
theorem dX12_called_71 : decode cX12_called 71 = .ok (.getfield 328, 3) := by decide +kernel
theorem dX12_called_74 : decode cX12_called 74 = .ok (.if_icmp .ge 71, 3) := by decide +kernel
theorem dX12_called_77 : decode cX12_called 77 = .ok (.aload_n 0, 1) := by decide +kernel
theorem dX12_called_78 : decode cX12_called 78 = .ok (.getfield 99, 3) := by decide +kernel
theorem dX12_called_81 : decode cX12_called 81 = .ok (.iload 4, 2) := by decide +kernel
theorem dX12_called_83 : decode cX12_called 83 = .ok (.aload_n 0, 1) := by decide +kernel
theorem dX12_called_84 : decode cX12_called 84 = .ok (.getfield 99, 3) := by decide +kernel
theorem dX12_called_87 : decode cX12_called 87 = .ok (.iload 4, 2) := by decide +kernel
theorem dX12_called_89 : decode cX12_called 89 = .ok (.iaload, 1) := by decide +kernel
theorem dX12_called_90 : decode cX12_called 90 = .ok (.aload_n 0, 1) := by decide +kernel
theorem dX12_called_91 : decode cX12_called 91 = .ok (.iload 5, 2) := by decide +kernel
theorem dX12_called_93 : decode cX12_called 93 = .ok (.invokevirtual 348, 3) := by decide +kernel
theorem dX12_called_96 : decode cX12_called 96 = .ok (.ifCond .eq 40, 3) := by decide +kernel
theorem dX12_called_99 : decode cX12_called 99 = .ok (.aload_n 0, 1) := by decide +kernel
theorem dX12_called_100 : decode cX12_called 100 = .ok (.getfield 81, 3) := by decide +kernel
theorem dX12_called_103 : decode cX12_called 103 = .ok (.iload 5, 2) := by decide +kernel
theorem dX12_called_105 : decode cX12_called 105 = .ok (.iaload, 1) := by decide +kernel
theorem dX12_called_106 : decode cX12_called 106 = .ok (.iload_n 1, 1) := by decide +kernel
theorem dX12_called_107 : decode cX12_called 107 = .ok (.if_icmp .ne 29, 3) := by decide +kernel
theorem dX12_called_110 : decode cX12_called 110 = .ok (.aload_n 0, 1) := by decide +kernel
theorem dX12_called_111 : decode cX12_called 111 = .ok (.iload 5, 2) := by decide +kernel
theorem dX12_called_113 : decode cX12_called 113 = .ok (.aload_n 0, 1) := by decide +kernel
theorem dX12_called_114 : decode cX12_called 114 = .ok (.getfield 165, 3) := by decide +kernel
theorem dX12_called_117 : decode cX12_called 117 = .ok (.iload 4, 2) := by decide +kernel
theorem dX12_called_119 : decode cX12_called 119 = .ok (.iadd, 1) := by decide +kernel
theorem dX12_called_120 : decode cX12_called 120 = .ok (.invokevirtual 345, 3) := by decide +kernel
theorem dX12_called_123 : decode cX12_called 123 = .ok (.ifCond .eq 13, 3) := by decide +kernel
theorem dX12_called_126 : decode cX12_called 126 = .ok (.aload_n 0, 1) := by decide +kernel
theorem dX12_called_127 : decode cX12_called 127 = .ok (.getfield 84, 3) := by decide +kernel
theorem dX12_called_130 : decode cX12_called 130 = .ok (.iload 5, 2) := by decide +kernel
theorem dX12_called_132 : decode cX12_called 132 = .ok (.iaload, 1) := by decide +kernel
theorem dX12_called_133 : decode cX12_called 133 = .ok (.goto 4, 3) := by decide +kernel
theorem dX12_called_136 : decode cX12_called 136 = .ok (.iconst 0, 1) := by decide +kernel
theorem dX12_called_137 : decode cX12_called 137 = .ok (.iadd, 1) := by decide +kernel
theorem dX12_called_138 : decode cX12_called 138 = .ok (.iastore, 1) := by decide +kernel
theorem dX12_called_139 : decode cX12_called 139 = .ok (.iinc 5 1, 3) := by decide +kernel
theorem dX12_called_142 : decode cX12_called 142 = .ok (.goto (-74), 3) := by decide +kernel
theorem dX12_called_145 : decode cX12_called 145 = .ok (.iinc 4 1, 3) := by decide +kernel
theorem dX12_called_148 : decode cX12_called 148 = .ok (.goto (-97), 3) := by decide +kernel
theorem dX12_called_151 : decode cX12_called 151 = .ok (.iconst 0, 1) := by decide +kernel
theorem dX12_called_152 : decode cX12_called 152 = .ok (.istore 4, 2) := by decide +kernel
theorem dX12_called_154 : decode cX12_called 154 = .ok (.iload 4, 2) := by decide +kernel
theorem dX12_called_156 : decode cX12_called 156 = .ok (.sipush 168, 3) := by decide +kernel
theorem dX12_called_159 : decode cX12_called 159 = .ok (.if_icmp .ge 17, 3) := by decide +kernel
theorem dX12_called_162 : decode cX12_called 162 = .ok (.aload_n 0, 1) := by decide +kernel
theorem dX12_called_163 : decode cX12_called 163 = .ok (.getfield 102, 3) := by decide +kernel
theorem dX12_called_166 : decode cX12_called 166 = .ok (.iload 4, 2) := by decide +kernel
theorem dX12_called_168 : decode cX12_called 168 = .ok (.iconst 0, 1) := by decide +kernel
theorem dX12_called_169 : decode cX12_called 169 = .ok (.bastore, 1) := by decide +kernel
theorem dX12_called_170 : decode cX12_called 170 = .ok (.iinc 4 1, 3) := by decide +kernel
theorem dX12_called_173 : decode cX12_called 173 = .ok (.goto (-19), 3) := by decide +kernel
theorem dX12_called_176 : decode cX12_called 176 = .ok (.lconst 0, 1) := by decide +kernel
theorem dX12_called_177 : decode cX12_called 177 = .ok (.lstore 4, 2) := by decide +kernel
theorem dX12_called_179 : decode cX12_called 179 = .ok (.aload_n 0, 1) := by decide +kernel
theorem dX12_called_180 : decode cX12_called 180 = .ok (.iload_n 1, 1) := by decide +kernel
theorem dX12_called_181 : decode cX12_called 181 = .ok (.iload_n 3, 1) := by decide +kernel
theorem dX12_called_182 : decode cX12_called 182 = .ok (.invokevirtual 353, 3) := by decide +kernel
theorem dX12_called_185 : decode cX12_called 185 = .ok (.istore 6, 2) := by decide +kernel
theorem dX12_called_187 : decode cX12_called 187 = .ok (.iload 6, 2) := by decide +kernel
theorem dX12_called_189 : decode cX12_called 189 = .ok (.iconst (-1), 1) := by decide +kernel
theorem dX12_called_190 : decode cX12_called 190 = .ok (.if_icmp .eq 157, 3) := by decide +kernel
theorem dX12_called_193 : decode cX12_called 193 = .ok (.aload_n 0, 1) := by decide +kernel
theorem dX12_called_194 : decode cX12_called 194 = .ok (.getfield 102, 3) := by decide +kernel
theorem dX12_called_197 : decode cX12_called 197 = .ok (.iload 6, 2) := by decide +kernel
theorem dX12_called_199 : decode cX12_called 199 = .ok (.iconst 1, 1) := by decide +kernel
theorem dX12_called_200 : decode cX12_called 200 = .ok (.bastore, 1) := by decide +kernel
theorem dX12_called_201 : decode cX12_called 201 = .ok (.iload 6, 2) := by decide +kernel
theorem dX12_called_203 : decode cX12_called 203 = .ok (.bipush 24, 2) := by decide +kernel
theorem dX12_called_205 : decode cX12_called 205 = .ok (.if_icmp .ge 21, 3) := by decide +kernel
theorem dX12_called_208 : decode cX12_called 208 = .ok (.bipush 60, 2) := by decide +kernel
theorem dX12_called_210 : decode cX12_called 210 = .ok (.aload_n 0, 1) := by decide +kernel
theorem dX12_called_211 : decode cX12_called 211 = .ok (.getfield 93, 3) := by decide +kernel
theorem dX12_called_214 : decode cX12_called 214 = .ok (.bipush 24, 2) := by decide +kernel
theorem dX12_called_216 : decode cX12_called 216 = .ok (.iload_n 1, 1) := by decide +kernel
theorem dX12_called_217 : decode cX12_called 217 = .ok (.imul, 1) := by decide +kernel
theorem dX12_called_218 : decode cX12_called 218 = .ok (.iload 6, 2) := by decide +kernel
theorem dX12_called_220 : decode cX12_called 220 = .ok (.iadd, 1) := by decide +kernel
theorem dX12_called_221 : decode cX12_called 221 = .ok (.iaload, 1) := by decide +kernel
theorem dX12_called_222 : decode cX12_called 222 = .ok (.isub, 1) := by decide +kernel
theorem dX12_called_223 : decode cX12_called 223 = .ok (.goto 5, 3) := by decide +kernel
theorem dX12_called_226 : decode cX12_called 226 = .ok (.bipush 60, 2) := by decide +kernel
theorem dX12_called_228 : decode cX12_called 228 = .ok (.istore 7, 2) := by decide +kernel
theorem dX12_called_230 : decode cX12_called 230 = .ok (.iconst 0, 1) := by decide +kernel
theorem dX12_called_231 : decode cX12_called 231 = .ok (.istore 8, 2) := by decide +kernel
theorem dX12_called_233 : decode cX12_called 233 = .ok (.iload 8, 2) := by decide +kernel
theorem dX12_called_235 : decode cX12_called 235 = .ok (.iload 6, 2) := by decide +kernel
theorem dX12_called_237 : decode cX12_called 237 = .ok (.bipush 24, 2) := by decide +kernel
theorem dX12_called_239 : decode cX12_called 239 = .ok (.idiv, 1) := by decide +kernel
theorem dX12_called_240 : decode cX12_called 240 = .ok (.if_icmp .gt 35, 3) := by decide +kernel
theorem dX12_called_243 : decode cX12_called 243 = .ok (.aload_n 0, 1) := by decide +kernel
theorem dX12_called_244 : decode cX12_called 244 = .ok (.getfield 99, 3) := by decide +kernel
theorem dX12_called_247 : decode cX12_called 247 = .ok (.iload 8, 2) := by decide +kernel
theorem dX12_called_249 : decode cX12_called 249 = .ok (.iaload, 1) := by decide +kernel
theorem dX12_called_250 : decode cX12_called 250 = .ok (.iload 7, 2) := by decide +kernel
theorem dX12_called_252 : decode cX12_called 252 = .ok (.if_icmp .ge 13, 3) := by decide +kernel
theorem dX12_called_255 : decode cX12_called 255 = .ok (.aload_n 0, 1) := by decide +kernel
theorem dX12_called_256 : decode cX12_called 256 = .ok (.getfield 99, 3) := by decide +kernel
theorem dX12_called_259 : decode cX12_called 259 = .ok (.iload 8, 2) := by decide +kernel
theorem dX12_called_261 : decode cX12_called 261 = .ok (.iaload, 1) := by decide +kernel
theorem dX12_called_262 : decode cX12_called 262 = .ok (.goto 5, 3) := by decide +kernel
theorem dX12_called_265 : decode cX12_called 265 = .ok (.iload 7, 2) := by decide +kernel
theorem dX12_called_267 : decode cX12_called 267 = .ok (.istore 7, 2) := by decide +kernel
theorem dX12_called_269 : decode cX12_called 269 = .ok (.iinc 8 1, 3) := by decide +kernel
theorem dX12_called_272 : decode cX12_called 272 = .ok (.goto (-39), 3) := by decide +kernel
theorem dX12_called_275 : decode cX12_called 275 = .ok (.iconst 0, 1) := by decide +kernel
theorem dX12_called_276 : decode cX12_called 276 = .ok (.istore 8, 2) := by decide +kernel
theorem dX12_called_278 : decode cX12_called 278 = .ok (.iload 8, 2) := by decide +kernel
theorem dX12_called_280 : decode cX12_called 280 = .ok (.iload 6, 2) := by decide +kernel
theorem dX12_called_282 : decode cX12_called 282 = .ok (.bipush 24, 2) := by decide +kernel
theorem dX12_called_284 : decode cX12_called 284 = .ok (.idiv, 1) := by decide +kernel
theorem dX12_called_285 : decode cX12_called 285 = .ok (.if_icmp .gt 26, 3) := by decide +kernel
theorem dX12_called_288 : decode cX12_called 288 = .ok (.aload_n 0, 1) := by decide +kernel
theorem dX12_called_289 : decode cX12_called 289 = .ok (.getfield 99, 3) := by decide +kernel
theorem dX12_called_292 : decode cX12_called 292 = .ok (.iload 8, 2) := by decide +kernel
theorem dX12_called_294 : decode cX12_called 294 = .ok (.aload_n 0, 1) := by decide +kernel
theorem dX12_called_295 : decode cX12_called 295 = .ok (.getfield 99, 3) := by decide +kernel
theorem dX12_called_298 : decode cX12_called 298 = .ok (.iload 8, 2) := by decide +kernel
theorem dX12_called_300 : decode cX12_called 300 = .ok (.iaload, 1) := by decide +kernel
theorem dX12_called_301 : decode cX12_called 301 = .ok (.iload 7, 2) := by decide +kernel
theorem dX12_called_303 : decode cX12_called 303 = .ok (.isub, 1) := by decide +kernel
theorem dX12_called_304 : decode cX12_called 304 = .ok (.iastore, 1) := by decide +kernel
theorem dX12_called_305 : decode cX12_called 305 = .ok (.iinc 8 1, 3) := by decide +kernel
theorem dX12_called_308 : decode cX12_called 308 = .ok (.goto (-30), 3) := by decide +kernel
theorem dX12_called_311 : decode cX12_called 311 = .ok (.lload 4, 2) := by decide +kernel
theorem dX12_called_313 : decode cX12_called 313 = .ok (.iload 7, 2) := by decide +kernel
theorem dX12_called_315 : decode cX12_called 315 = .ok (.i2l, 1) := by decide +kernel
theorem dX12_called_316 : decode cX12_called 316 = .ok (.aload_n 0, 1) := by decide +kernel
theorem dX12_called_317 : decode cX12_called 317 = .ok (.getfield 7, 3) := by decide +kernel
theorem dX12_called_320 : decode cX12_called 320 = .ok (.bipush 24, 2) := by decide +kernel
theorem dX12_called_322 : decode cX12_called 322 = .ok (.iload_n 1, 1) := by decide +kernel
theorem dX12_called_323 : decode cX12_called 323 = .ok (.imul, 1) := by decide +kernel
theorem dX12_called_324 : decode cX12_called 324 = .ok (.iload 6, 2) := by decide +kernel
theorem dX12_called_326 : decode cX12_called 326 = .ok (.bipush 24, 2) := by decide +kernel
theorem dX12_called_328 : decode cX12_called 328 = .ok (.irem, 1) := by decide +kernel
theorem dX12_called_329 : decode cX12_called 329 = .ok (.iadd, 1) := by decide +kernel
theorem dX12_called_330 : decode cX12_called 330 = .ok (.iaload, 1) := by decide +kernel
theorem dX12_called_331 : decode cX12_called 331 = .ok (.i2l, 1) := by decide +kernel
theorem dX12_called_332 : decode cX12_called 332 = .ok (.lmul, 1) := by decide +kernel
theorem dX12_called_333 : decode cX12_called 333 = .ok (.ladd, 1) := by decide +kernel
theorem dX12_called_334 : decode cX12_called 334 = .ok (.lstore 4, 2) := by decide +kernel
theorem dX12_called_336 : decode cX12_called 336 = .ok (.aload_n 0, 1) := by decide +kernel
theorem dX12_called_337 : decode cX12_called 337 = .ok (.iload_n 1, 1) := by decide +kernel
theorem dX12_called_338 : decode cX12_called 338 = .ok (.iload_n 3, 1) := by decide +kernel
theorem dX12_called_339 : decode cX12_called 339 = .ok (.invokevirtual 353, 3) := by decide +kernel
theorem dX12_called_342 : decode cX12_called 342 = .ok (.istore 6, 2) := by decide +kernel
theorem dX12_called_344 : decode cX12_called 344 = .ok (.goto (-157), 3) := by decide +kernel
theorem dX12_called_347 : decode cX12_called 347 = .ok (.lload 4, 2) := by decide +kernel
theorem dX12_called_349 : decode cX12_called 349 = .ok (.lreturn, 1) := by decide +kernel
theorem dX12_balances_0 : decode cX12_balances 0 = .ok (.iconst 0, 1) := by decide +kernel
theorem dX12_balances_1 : decode cX12_balances 1 = .ok (.istore_n 1, 1) := by decide +kernel
theorem dX12_balances_2 : decode cX12_balances 2 = .ok (.iload_n 1, 1) := by decide +kernel
theorem dX12_balances_3 : decode cX12_balances 3 = .ok (.bipush 8, 2) := by decide +kernel
theorem dX12_balances_5 : decode cX12_balances 5 = .ok (.if_icmp .ge 68, 3) := by decide +kernel
theorem dX12_balances_8 : decode cX12_balances 8 = .ok (.aload_n 0, 1) := by decide +kernel
theorem dX12_balances_9 : decode cX12_balances 9 = .ok (.getfield 111, 3) := by decide +kernel
theorem dX12_balances_12 : decode cX12_balances 12 = .ok (.iload_n 1, 1) := by decide +kernel
theorem dX12_balances_13 : decode cX12_balances 13 = .ok (.iconst 0, 1) := by decide +kernel
theorem dX12_balances_14 : decode cX12_balances 14 = .ok (.iastore, 1) := by decide +kernel
theorem dX12_balances_15 : decode cX12_balances 15 = .ok (.iconst 0, 1) := by decide +kernel
theorem dX12_balances_16 : decode cX12_balances 16 = .ok (.istore_n 2, 1) := by decide +kernel
theorem dX12_balances_17 : decode cX12_balances 17 = .ok (.iload_n 2, 1) := by decide +kernel
theorem dX12_balances_18 : decode cX12_balances 18 = .ok (.bipush 8, 2) := by decide +kernel
theorem dX12_balances_20 : decode cX12_balances 20 = .ok (.if_icmp .ge 47, 3) := by decide +kernel
theorem dX12_balances_23 : decode cX12_balances 23 = .ok (.aload_n 0, 1) := by decide +kernel
theorem dX12_balances_24 : decode cX12_balances 24 = .ok (.getfield 108, 3) := by decide +kernel
theorem dX12_balances_27 : decode cX12_balances 27 = .ok (.bipush 8, 2) := by decide +kernel
theorem dX12_balances_29 : decode cX12_balances 29 = .ok (.iload_n 1, 1) := by decide +kernel
theorem dX12_balances_30 : decode cX12_balances 30 = .ok (.imul, 1) := by decide +kernel
theorem dX12_balances_31 : decode cX12_balances 31 = .ok (.iload_n 2, 1) := by decide +kernel
theorem dX12_balances_32 : decode cX12_balances 32 = .ok (.iadd, 1) := by decide +kernel
theorem dX12_balances_33 : decode cX12_balances 33 = .ok (.iload_n 1, 1) := by decide +kernel
theorem dX12_balances_34 : decode cX12_balances 34 = .ok (.iload_n 2, 1) := by decide +kernel
theorem dX12_balances_35 : decode cX12_balances 35 = .ok (.if_icmp .ne 7, 3) := by decide +kernel
theorem dX12_balances_38 : decode cX12_balances 38 = .ok (.iconst 0, 1) := by decide +kernel
theorem dX12_balances_39 : decode cX12_balances 39 = .ok (.goto 9, 3) := by decide +kernel
theorem dX12_balances_42 : decode cX12_balances 42 = .ok (.aload_n 0, 1) := by decide +kernel
theorem dX12_balances_43 : decode cX12_balances 43 = .ok (.iload_n 1, 1) := by decide +kernel
theorem dX12_balances_44 : decode cX12_balances 44 = .ok (.iload_n 2, 1) := by decide +kernel
theorem dX12_balances_45 : decode cX12_balances 45 = .ok (.invokevirtual 356, 3) := by decide +kernel
theorem dX12_balances_48 : decode cX12_balances 48 = .ok (.iastore, 1) := by decide +kernel
theorem dX12_balances_49 : decode cX12_balances 49 = .ok (.aload_n 0, 1) := by decide +kernel
theorem dX12_balances_50 : decode cX12_balances 50 = .ok (.getfield 105, 3) := by decide +kernel
theorem dX12_balances_53 : decode cX12_balances 53 = .ok (.bipush 8, 2) := by decide +kernel
theorem dX12_balances_55 : decode cX12_balances 55 = .ok (.iload_n 1, 1) := by decide +kernel
theorem dX12_balances_56 : decode cX12_balances 56 = .ok (.imul, 1) := by decide +kernel
theorem dX12_balances_57 : decode cX12_balances 57 = .ok (.iload_n 2, 1) := by decide +kernel
theorem dX12_balances_58 : decode cX12_balances 58 = .ok (.iadd, 1) := by decide +kernel
theorem dX12_balances_59 : decode cX12_balances 59 = .ok (.iconst 0, 1) := by decide +kernel
theorem dX12_balances_60 : decode cX12_balances 60 = .ok (.iastore, 1) := by decide +kernel
theorem dX12_balances_61 : decode cX12_balances 61 = .ok (.iinc 2 1, 3) := by decide +kernel
theorem dX12_balances_64 : decode cX12_balances 64 = .ok (.goto (-47), 3) := by decide +kernel
theorem dX12_balances_67 : decode cX12_balances 67 = .ok (.iinc 1 1, 3) := by decide +kernel
theorem dX12_balances_70 : decode cX12_balances 70 = .ok (.goto (-68), 3) := by decide +kernel
theorem dX12_balances_73 : decode cX12_balances 73 = .ok (.iconst 0, 1) := by decide +kernel
theorem dX12_balances_74 : decode cX12_balances 74 = .ok (.istore_n 1, 1) := by decide +kernel
theorem dX12_balances_75 : decode cX12_balances 75 = .ok (.iload_n 1, 1) := by decide +kernel
theorem dX12_balances_76 : decode cX12_balances 76 = .ok (.bipush 8, 2) := by decide +kernel
theorem dX12_balances_78 : decode cX12_balances 78 = .ok (.if_icmp .ge 59, 3) := by decide +kernel
theorem dX12_balances_81 : decode cX12_balances 81 = .ok (.iconst 0, 1) := by decide +kernel
theorem dX12_balances_82 : decode cX12_balances 82 = .ok (.istore_n 2, 1) := by decide +kernel
theorem dX12_balances_83 : decode cX12_balances 83 = .ok (.iload_n 2, 1) := by decide +kernel
theorem dX12_balances_84 : decode cX12_balances 84 = .ok (.bipush 8, 2) := by decide +kernel
theorem dX12_balances_86 : decode cX12_balances 86 = .ok (.if_icmp .ge 45, 3) := by decide +kernel
theorem dX12_balances_89 : decode cX12_balances 89 = .ok (.aload_n 0, 1) := by decide +kernel
theorem dX12_balances_90 : decode cX12_balances 90 = .ok (.getfield 111, 3) := by decide +kernel
theorem dX12_balances_93 : decode cX12_balances 93 = .ok (.iload_n 1, 1) := by decide +kernel
theorem dX12_balances_94 : decode cX12_balances 94 = .ok (.aload_n 0, 1) := by decide +kernel
theorem dX12_balances_95 : decode cX12_balances 95 = .ok (.getfield 111, 3) := by decide +kernel
theorem dX12_balances_98 : decode cX12_balances 98 = .ok (.iload_n 1, 1) := by decide +kernel
theorem dX12_balances_99 : decode cX12_balances 99 = .ok (.iaload, 1) := by decide +kernel
theorem dX12_balances_100 : decode cX12_balances 100 = .ok (.aload_n 0, 1) := by decide +kernel
theorem dX12_balances_101 : decode cX12_balances 101 = .ok (.getfield 108, 3) := by decide +kernel
theorem dX12_balances_104 : decode cX12_balances 104 = .ok (.bipush 8, 2) := by decide +kernel
theorem dX12_balances_106 : decode cX12_balances 106 = .ok (.iload_n 1, 1) := by decide +kernel
theorem dX12_balances_107 : decode cX12_balances 107 = .ok (.imul, 1) := by decide +kernel
theorem dX12_balances_108 : decode cX12_balances 108 = .ok (.iload_n 2, 1) := by decide +kernel
theorem dX12_balances_109 : decode cX12_balances 109 = .ok (.iadd, 1) := by decide +kernel
theorem dX12_balances_110 : decode cX12_balances 110 = .ok (.iaload, 1) := by decide +kernel
theorem dX12_balances_111 : decode cX12_balances 111 = .ok (.iadd, 1) := by decide +kernel
theorem dX12_balances_112 : decode cX12_balances 112 = .ok (.aload_n 0, 1) := by decide +kernel
theorem dX12_balances_113 : decode cX12_balances 113 = .ok (.getfield 108, 3) := by decide +kernel
theorem dX12_balances_116 : decode cX12_balances 116 = .ok (.bipush 8, 2) := by decide +kernel
theorem dX12_balances_118 : decode cX12_balances 118 = .ok (.iload_n 2, 1) := by decide +kernel
theorem dX12_balances_119 : decode cX12_balances 119 = .ok (.imul, 1) := by decide +kernel
theorem dX12_balances_120 : decode cX12_balances 120 = .ok (.iload_n 1, 1) := by decide +kernel
theorem dX12_balances_121 : decode cX12_balances 121 = .ok (.iadd, 1) := by decide +kernel
theorem dX12_balances_122 : decode cX12_balances 122 = .ok (.iaload, 1) := by decide +kernel
theorem dX12_balances_123 : decode cX12_balances 123 = .ok (.isub, 1) := by decide +kernel
theorem dX12_balances_124 : decode cX12_balances 124 = .ok (.iastore, 1) := by decide +kernel
theorem dX12_balances_125 : decode cX12_balances 125 = .ok (.iinc 2 1, 3) := by decide +kernel
theorem dX12_balances_128 : decode cX12_balances 128 = .ok (.goto (-45), 3) := by decide +kernel
theorem dX12_balances_131 : decode cX12_balances 131 = .ok (.iinc 1 1, 3) := by decide +kernel
theorem dX12_balances_134 : decode cX12_balances 134 = .ok (.goto (-59), 3) := by decide +kernel
theorem dX12_balances_137 : decode cX12_balances 137 = .ok (.return_, 1) := by decide +kernel
theorem dX12_measures_0 : decode cX12_measures 0 = .ok (.iconst 0, 1) := by decide +kernel
theorem dX12_measures_1 : decode cX12_measures 1 = .ok (.istore_n 1, 1) := by decide +kernel
theorem dX12_measures_2 : decode cX12_measures 2 = .ok (.iload_n 1, 1) := by decide +kernel
theorem dX12_measures_3 : decode cX12_measures 3 = .ok (.bipush 8, 2) := by decide +kernel
theorem dX12_measures_5 : decode cX12_measures 5 = .ok (.if_icmp .ge 38, 3) := by decide +kernel
theorem dX12_measures_8 : decode cX12_measures 8 = .ok (.aload_n 0, 1) := by decide +kernel
theorem dX12_measures_9 : decode cX12_measures 9 = .ok (.getfield 114, 3) := by decide +kernel
theorem dX12_measures_12 : decode cX12_measures 12 = .ok (.iload_n 1, 1) := by decide +kernel
theorem dX12_measures_13 : decode cX12_measures 13 = .ok (.aload_n 0, 1) := by decide +kernel
theorem dX12_measures_14 : decode cX12_measures 14 = .ok (.getfield 111, 3) := by decide +kernel
theorem dX12_measures_17 : decode cX12_measures 17 = .ok (.iload_n 1, 1) := by decide +kernel
theorem dX12_measures_18 : decode cX12_measures 18 = .ok (.iaload, 1) := by decide +kernel
theorem dX12_measures_19 : decode cX12_measures 19 = .ok (.ifCond .le 7, 3) := by decide +kernel
theorem dX12_measures_22 : decode cX12_measures 22 = .ok (.iconst 0, 1) := by decide +kernel
theorem dX12_measures_23 : decode cX12_measures 23 = .ok (.goto 6, 3) := by decide +kernel
theorem dX12_measures_26 : decode cX12_measures 26 = .ok (.sipush 1000, 3) := by decide +kernel
theorem dX12_measures_29 : decode cX12_measures 29 = .ok (.iastore, 1) := by decide +kernel
theorem dX12_measures_30 : decode cX12_measures 30 = .ok (.aload_n 0, 1) := by decide +kernel
theorem dX12_measures_31 : decode cX12_measures 31 = .ok (.getfield 117, 3) := by decide +kernel
theorem dX12_measures_34 : decode cX12_measures 34 = .ok (.iload_n 1, 1) := by decide +kernel
theorem dX12_measures_35 : decode cX12_measures 35 = .ok (.iconst (-1), 1) := by decide +kernel
theorem dX12_measures_36 : decode cX12_measures 36 = .ok (.iastore, 1) := by decide +kernel
theorem dX12_measures_37 : decode cX12_measures 37 = .ok (.iinc 1 1, 3) := by decide +kernel
theorem dX12_measures_40 : decode cX12_measures 40 = .ok (.goto (-38), 3) := by decide +kernel
theorem dX12_measures_43 : decode cX12_measures 43 = .ok (.iconst 0, 1) := by decide +kernel
theorem dX12_measures_44 : decode cX12_measures 44 = .ok (.istore_n 1, 1) := by decide +kernel
theorem dX12_measures_45 : decode cX12_measures 45 = .ok (.iload_n 1, 1) := by decide +kernel
theorem dX12_measures_46 : decode cX12_measures 46 = .ok (.bipush 8, 2) := by decide +kernel
theorem dX12_measures_48 : decode cX12_measures 48 = .ok (.if_icmp .ge 160, 3) := by decide +kernel
theorem dX12_measures_51 : decode cX12_measures 51 = .ok (.iconst 0, 1) := by decide +kernel
theorem dX12_measures_52 : decode cX12_measures 52 = .ok (.istore_n 2, 1) := by decide +kernel
theorem dX12_measures_53 : decode cX12_measures 53 = .ok (.iload_n 2, 1) := by decide +kernel
theorem dX12_measures_54 : decode cX12_measures 54 = .ok (.bipush 8, 2) := by decide +kernel
theorem dX12_measures_56 : decode cX12_measures 56 = .ok (.if_icmp .ge 146, 3) := by decide +kernel
theorem dX12_measures_59 : decode cX12_measures 59 = .ok (.iconst 0, 1) := by decide +kernel
theorem dX12_measures_60 : decode cX12_measures 60 = .ok (.istore_n 3, 1) := by decide +kernel
theorem dX12_measures_61 : decode cX12_measures 61 = .ok (.iload_n 3, 1) := by decide +kernel
theorem dX12_measures_62 : decode cX12_measures 62 = .ok (.bipush 8, 2) := by decide +kernel
theorem dX12_measures_64 : decode cX12_measures 64 = .ok (.if_icmp .ge 132, 3) := by decide +kernel
theorem dX12_measures_67 : decode cX12_measures 67 = .ok (.aload_n 0, 1) := by decide +kernel
theorem dX12_measures_68 : decode cX12_measures 68 = .ok (.getfield 114, 3) := by decide +kernel
theorem dX12_measures_71 : decode cX12_measures 71 = .ok (.iload_n 2, 1) := by decide +kernel
theorem dX12_measures_72 : decode cX12_measures 72 = .ok (.iaload, 1) := by decide +kernel
theorem dX12_measures_73 : decode cX12_measures 73 = .ok (.sipush 1000, 3) := by decide +kernel
theorem dX12_measures_76 : decode cX12_measures 76 = .ok (.if_icmp .eq 114, 3) := by decide +kernel
theorem dX12_measures_79 : decode cX12_measures 79 = .ok (.iload_n 2, 1) := by decide +kernel
theorem dX12_measures_80 : decode cX12_measures 80 = .ok (.iload_n 3, 1) := by decide +kernel
theorem dX12_measures_81 : decode cX12_measures 81 = .ok (.if_icmp .ne 6, 3) := by decide +kernel
theorem dX12_measures_84 : decode cX12_measures 84 = .ok (.goto 106, 3) := by decide +kernel
theorem dX12_measures_87 : decode cX12_measures 87 = .ok (.aload_n 0, 1) := by decide +kernel
theorem dX12_measures_88 : decode cX12_measures 88 = .ok (.getfield 105, 3) := by decide +kernel
theorem dX12_measures_91 : decode cX12_measures 91 = .ok (.bipush 8, 2) := by decide +kernel
theorem dX12_measures_93 : decode cX12_measures 93 = .ok (.iload_n 3, 1) := by decide +kernel
theorem dX12_measures_94 : decode cX12_measures 94 = .ok (.imul, 1) := by decide +kernel
theorem dX12_measures_95 : decode cX12_measures 95 = .ok (.iload_n 2, 1) := by decide +kernel
theorem dX12_measures_96 : decode cX12_measures 96 = .ok (.iadd, 1) := by decide +kernel
theorem dX12_measures_97 : decode cX12_measures 97 = .ok (.iaload, 1) := by decide +kernel
theorem dX12_measures_98 : decode cX12_measures 98 = .ok (.ifCond .le 7, 3) := by decide +kernel
