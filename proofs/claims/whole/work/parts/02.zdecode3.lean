theorem dX12_board_5 : decode cX12_board 5 = .ok (.aload_n 0, 1) := by decide +kernel
theorem dX12_board_6 : decode cX12_board 6 = .ok (.getfield 305, 3) := by decide +kernel
theorem dX12_board_9 : decode cX12_board 9 = .ok (.if_icmp .gt 131, 3) := by decide +kernel
theorem dX12_board_12 : decode cX12_board 12 = .ok (.iload_n 2, 1) := by decide +kernel
theorem dX12_board_13 : decode cX12_board 13 = .ok (.aload_n 0, 1) := by decide +kernel
theorem dX12_board_14 : decode cX12_board 14 = .ok (.getfield 305, 3) := by decide +kernel
theorem dX12_board_17 : decode cX12_board 17 = .ok (.if_icmp .ne 22, 3) := by decide +kernel
theorem dX12_board_20 : decode cX12_board 20 = .ok (.aload_n 0, 1) := by decide +kernel
theorem dX12_board_21 : decode cX12_board 21 = .ok (.getfield 349, 3) := by decide +kernel
theorem dX12_board_24 : decode cX12_board 24 = .ok (.aload_n 0, 1) := by decide +kernel
theorem dX12_board_25 : decode cX12_board 25 = .ok (.getfield 352, 3) := by decide +kernel
theorem dX12_board_28 : decode cX12_board 28 = .ok (.if_icmp .le 7, 3) := by decide +kernel
theorem dX12_board_31 : decode cX12_board 31 = .ok (.iconst 1, 1) := by decide +kernel
theorem dX12_board_32 : decode cX12_board 32 = .ok (.goto 30, 3) := by decide +kernel
theorem dX12_board_35 : decode cX12_board 35 = .ok (.iconst 0, 1) := by decide +kernel
theorem dX12_board_36 : decode cX12_board 36 = .ok (.goto 26, 3) := by decide +kernel
theorem dX12_board_39 : decode cX12_board 39 = .ok (.aload_n 0, 1) := by decide +kernel
theorem dX12_board_40 : decode cX12_board 40 = .ok (.getfield 73, 3) := by decide +kernel
theorem dX12_board_43 : decode cX12_board 43 = .ok (.iload_n 2, 1) := by decide +kernel
theorem dX12_board_44 : decode cX12_board 44 = .ok (.iaload, 1) := by decide +kernel
theorem dX12_board_45 : decode cX12_board 45 = .ok (.ifCond .le 16, 3) := by decide +kernel
theorem dX12_board_48 : decode cX12_board 48 = .ok (.aload_n 0, 1) := by decide +kernel
theorem dX12_board_49 : decode cX12_board 49 = .ok (.getfield 55, 3) := by decide +kernel
theorem dX12_board_52 : decode cX12_board 52 = .ok (.iload_n 2, 1) := by decide +kernel
theorem dX12_board_53 : decode cX12_board 53 = .ok (.iaload, 1) := by decide +kernel
theorem dX12_board_54 : decode cX12_board 54 = .ok (.ifCond .le 7, 3) := by decide +kernel
theorem dX12_board_57 : decode cX12_board 57 = .ok (.iconst 1, 1) := by decide +kernel
theorem dX12_board_58 : decode cX12_board 58 = .ok (.goto 4, 3) := by decide +kernel
theorem dX12_board_61 : decode cX12_board 61 = .ok (.iconst 0, 1) := by decide +kernel
theorem dX12_board_62 : decode cX12_board 62 = .ok (.istore_n 3, 1) := by decide +kernel
theorem dX12_board_63 : decode cX12_board 63 = .ok (.iload_n 3, 1) := by decide +kernel
theorem dX12_board_64 : decode cX12_board 64 = .ok (.ifCond .ne 6, 3) := by decide +kernel
theorem dX12_board_67 : decode cX12_board 67 = .ok (.goto 67, 3) := by decide +kernel
theorem dX12_board_70 : decode cX12_board 70 = .ok (.iload_n 1, 1) := by decide +kernel
theorem dX12_board_71 : decode cX12_board 71 = .ok (.istore 4, 2) := by decide +kernel
theorem dX12_board_73 : decode cX12_board 73 = .ok (.iload 4, 2) := by decide +kernel
theorem dX12_board_75 : decode cX12_board 75 = .ok (.ifCond .le 43, 3) := by decide +kernel
theorem dX12_board_78 : decode cX12_board 78 = .ok (.aload_n 0, 1) := by decide +kernel
theorem dX12_board_79 : decode cX12_board 79 = .ok (.getfield 79, 3) := by decide +kernel
theorem dX12_board_82 : decode cX12_board 82 = .ok (.iload 4, 2) := by decide +kernel
theorem dX12_board_84 : decode cX12_board 84 = .ok (.iconst 1, 1) := by decide +kernel
theorem dX12_board_85 : decode cX12_board 85 = .ok (.isub, 1) := by decide +kernel
theorem dX12_board_86 : decode cX12_board 86 = .ok (.iaload, 1) := by decide +kernel
theorem dX12_board_87 : decode cX12_board 87 = .ok (.aload_n 0, 1) := by decide +kernel
theorem dX12_board_88 : decode cX12_board 88 = .ok (.getfield 67, 3) := by decide +kernel
theorem dX12_board_91 : decode cX12_board 91 = .ok (.iload_n 2, 1) := by decide +kernel
theorem dX12_board_92 : decode cX12_board 92 = .ok (.iaload, 1) := by decide +kernel
theorem dX12_board_93 : decode cX12_board 93 = .ok (.if_icmp .le 25, 3) := by decide +kernel
theorem dX12_board_96 : decode cX12_board 96 = .ok (.aload_n 0, 1) := by decide +kernel
theorem dX12_board_97 : decode cX12_board 97 = .ok (.getfield 79, 3) := by decide +kernel
theorem dX12_board_100 : decode cX12_board 100 = .ok (.iload 4, 2) := by decide +kernel
theorem dX12_board_102 : decode cX12_board 102 = .ok (.aload_n 0, 1) := by decide +kernel
theorem dX12_board_103 : decode cX12_board 103 = .ok (.getfield 79, 3) := by decide +kernel
theorem dX12_board_106 : decode cX12_board 106 = .ok (.iload 4, 2) := by decide +kernel
theorem dX12_board_108 : decode cX12_board 108 = .ok (.iconst 1, 1) := by decide +kernel
theorem dX12_board_109 : decode cX12_board 109 = .ok (.isub, 1) := by decide +kernel
theorem dX12_board_110 : decode cX12_board 110 = .ok (.iaload, 1) := by decide +kernel
theorem dX12_board_111 : decode cX12_board 111 = .ok (.iastore, 1) := by decide +kernel
theorem dX12_board_112 : decode cX12_board 112 = .ok (.iinc 4 (-1), 3) := by decide +kernel
theorem dX12_board_115 : decode cX12_board 115 = .ok (.goto (-42), 3) := by decide +kernel
theorem dX12_board_118 : decode cX12_board 118 = .ok (.aload_n 0, 1) := by decide +kernel
theorem dX12_board_119 : decode cX12_board 119 = .ok (.getfield 79, 3) := by decide +kernel
theorem dX12_board_122 : decode cX12_board 122 = .ok (.iload 4, 2) := by decide +kernel
theorem dX12_board_124 : decode cX12_board 124 = .ok (.aload_n 0, 1) := by decide +kernel
theorem dX12_board_125 : decode cX12_board 125 = .ok (.getfield 67, 3) := by decide +kernel
theorem dX12_board_128 : decode cX12_board 128 = .ok (.iload_n 2, 1) := by decide +kernel
theorem dX12_board_129 : decode cX12_board 129 = .ok (.iaload, 1) := by decide +kernel
theorem dX12_board_130 : decode cX12_board 130 = .ok (.iastore, 1) := by decide +kernel
theorem dX12_board_131 : decode cX12_board 131 = .ok (.iinc 1 1, 3) := by decide +kernel
theorem dX12_board_134 : decode cX12_board 134 = .ok (.iinc 2 1, 3) := by decide +kernel
theorem dX12_board_137 : decode cX12_board 137 = .ok (.goto (-133), 3) := by decide +kernel
theorem dX12_board_140 : decode cX12_board 140 = .ok (.aload_n 0, 1) := by decide +kernel
theorem dX12_board_141 : decode cX12_board 141 = .ok (.iload_n 1, 1) := by decide +kernel
theorem dX12_board_142 : decode cX12_board 142 = .ok (.ifCond .ne 7, 3) := by decide +kernel
theorem dX12_board_145 : decode cX12_board 145 = .ok (.iconst 1, 1) := by decide +kernel
theorem dX12_board_146 : decode cX12_board 146 = .ok (.goto 4, 3) := by decide +kernel
theorem dX12_board_149 : decode cX12_board 149 = .ok (.iconst 0, 1) := by decide +kernel
theorem dX12_board_150 : decode cX12_board 150 = .ok (.putfield 367, 3) := by decide +kernel
theorem dX12_board_153 : decode cX12_board 153 = .ok (.aload_n 0, 1) := by decide +kernel
theorem dX12_board_154 : decode cX12_board 154 = .ok (.getfield 55, 3) := by decide +kernel
theorem dX12_board_157 : decode cX12_board 157 = .ok (.bipush 54, 2) := by decide +kernel
theorem dX12_board_159 : decode cX12_board 159 = .ok (.iload_n 1, 1) := by decide +kernel
theorem dX12_board_160 : decode cX12_board 160 = .ok (.ifCond .ne 12, 3) := by decide +kernel
theorem dX12_board_163 : decode cX12_board 163 = .ok (.aload_n 0, 1) := by decide +kernel
theorem dX12_board_164 : decode cX12_board 164 = .ok (.getfield 43, 3) := by decide +kernel
theorem dX12_board_167 : decode cX12_board 167 = .ok (.iconst 1, 1) := by decide +kernel
theorem dX12_board_168 : decode cX12_board 168 = .ok (.iaload, 1) := by decide +kernel
theorem dX12_board_169 : decode cX12_board 169 = .ok (.goto 48, 3) := by decide +kernel
theorem dX12_board_172 : decode cX12_board 172 = .ok (.aload_n 0, 1) := by decide +kernel
theorem dX12_board_173 : decode cX12_board 173 = .ok (.getfield 370, 3) := by decide +kernel
theorem dX12_board_176 : decode cX12_board 176 = .ok (.ifCond .ne 12, 3) := by decide +kernel
theorem dX12_board_179 : decode cX12_board 179 = .ok (.aload_n 0, 1) := by decide +kernel
theorem dX12_board_180 : decode cX12_board 180 = .ok (.getfield 79, 3) := by decide +kernel
theorem dX12_board_183 : decode cX12_board 183 = .ok (.iconst 0, 1) := by decide +kernel
theorem dX12_board_184 : decode cX12_board 184 = .ok (.iaload, 1) := by decide +kernel
theorem dX12_board_185 : decode cX12_board 185 = .ok (.goto 32, 3) := by decide +kernel
theorem dX12_board_188 : decode cX12_board 188 = .ok (.aload_n 0, 1) := by decide +kernel
theorem dX12_board_189 : decode cX12_board 189 = .ok (.getfield 370, 3) := by decide +kernel
theorem dX12_board_192 : decode cX12_board 192 = .ok (.iconst 1, 1) := by decide +kernel
theorem dX12_board_193 : decode cX12_board 193 = .ok (.if_icmp .ne 14, 3) := by decide +kernel
theorem dX12_board_196 : decode cX12_board 196 = .ok (.aload_n 0, 1) := by decide +kernel
theorem dX12_board_197 : decode cX12_board 197 = .ok (.getfield 79, 3) := by decide +kernel
theorem dX12_board_200 : decode cX12_board 200 = .ok (.iload_n 1, 1) := by decide +kernel
theorem dX12_board_201 : decode cX12_board 201 = .ok (.iconst 1, 1) := by decide +kernel
theorem dX12_board_202 : decode cX12_board 202 = .ok (.isub, 1) := by decide +kernel
theorem dX12_board_203 : decode cX12_board 203 = .ok (.iaload, 1) := by decide +kernel
theorem dX12_board_204 : decode cX12_board 204 = .ok (.goto 13, 3) := by decide +kernel
theorem dX12_board_207 : decode cX12_board 207 = .ok (.aload_n 0, 1) := by decide +kernel
theorem dX12_board_208 : decode cX12_board 208 = .ok (.getfield 79, 3) := by decide +kernel
theorem dX12_board_211 : decode cX12_board 211 = .ok (.iload_n 1, 1) := by decide +kernel
theorem dX12_board_212 : decode cX12_board 212 = .ok (.iconst 1, 1) := by decide +kernel
theorem dX12_board_213 : decode cX12_board 213 = .ok (.isub, 1) := by decide +kernel
theorem dX12_board_214 : decode cX12_board 214 = .ok (.iconst 2, 1) := by decide +kernel
theorem dX12_board_215 : decode cX12_board 215 = .ok (.idiv, 1) := by decide +kernel
theorem dX12_board_216 : decode cX12_board 216 = .ok (.iaload, 1) := by decide +kernel
theorem dX12_board_217 : decode cX12_board 217 = .ok (.iastore, 1) := by decide +kernel
theorem dX12_board_218 : decode cX12_board 218 = .ok (.return_, 1) := by decide +kernel
theorem dX12_goes_0 : decode cX12_goes 0 = .ok (.aload_n 0, 1) := by decide +kernel
theorem dX12_goes_1 : decode cX12_goes 1 = .ok (.iconst 0, 1) := by decide +kernel
theorem dX12_goes_2 : decode cX12_goes 2 = .ok (.putfield 352, 3) := by decide +kernel
theorem dX12_goes_5 : decode cX12_goes 5 = .ok (.iconst 0, 1) := by decide +kernel
theorem dX12_goes_6 : decode cX12_goes 6 = .ok (.istore_n 2, 1) := by decide +kernel
theorem dX12_goes_7 : decode cX12_goes 7 = .ok (.iload_n 2, 1) := by decide +kernel
theorem dX12_goes_8 : decode cX12_goes 8 = .ok (.aload_n 0, 1) := by decide +kernel
theorem dX12_goes_9 : decode cX12_goes 9 = .ok (.getfield 305, 3) := by decide +kernel
theorem dX12_goes_12 : decode cX12_goes 12 = .ok (.if_icmp .ge 93, 3) := by decide +kernel
theorem dX12_goes_15 : decode cX12_goes 15 = .ok (.aload_n 0, 1) := by decide +kernel
theorem dX12_goes_16 : decode cX12_goes 16 = .ok (.getfield 37, 3) := by decide +kernel
theorem dX12_goes_19 : decode cX12_goes 19 = .ok (.iconst 3, 1) := by decide +kernel
theorem dX12_goes_20 : decode cX12_goes 20 = .ok (.iload_n 2, 1) := by decide +kernel
theorem dX12_goes_21 : decode cX12_goes 21 = .ok (.imul, 1) := by decide +kernel
theorem dX12_goes_22 : decode cX12_goes 22 = .ok (.iaload, 1) := by decide +kernel
theorem dX12_goes_23 : decode cX12_goes 23 = .ok (.bipush 99, 2) := by decide +kernel
theorem dX12_goes_25 : decode cX12_goes 25 = .ok (.aload_n 0, 1) := by decide +kernel
theorem dX12_goes_26 : decode cX12_goes 26 = .ok (.getfield 55, 3) := by decide +kernel
theorem dX12_goes_29 : decode cX12_goes 29 = .ok (.iload_n 2, 1) := by decide +kernel
theorem dX12_goes_30 : decode cX12_goes 30 = .ok (.iaload, 1) := by decide +kernel
theorem dX12_goes_31 : decode cX12_goes 31 = .ok (.isub, 1) := by decide +kernel
theorem dX12_goes_32 : decode cX12_goes 32 = .ok (.invokestatic 345, 3) := by decide +kernel
theorem dX12_goes_35 : decode cX12_goes 35 = .ok (.istore_n 3, 1) := by decide +kernel
theorem dX12_goes_36 : decode cX12_goes 36 = .ok (.aload_n 0, 1) := by decide +kernel
theorem dX12_goes_37 : decode cX12_goes 37 = .ok (.getfield 55, 3) := by decide +kernel
theorem dX12_goes_40 : decode cX12_goes 40 = .ok (.iload_n 2, 1) := by decide +kernel
theorem dX12_goes_41 : decode cX12_goes 41 = .ok (.dup2, 1) := by decide +kernel
theorem dX12_goes_42 : decode cX12_goes 42 = .ok (.iaload, 1) := by decide +kernel
theorem dX12_goes_43 : decode cX12_goes 43 = .ok (.iload_n 3, 1) := by decide +kernel
theorem dX12_goes_44 : decode cX12_goes 44 = .ok (.iadd, 1) := by decide +kernel
theorem dX12_goes_45 : decode cX12_goes 45 = .ok (.iastore, 1) := by decide +kernel
theorem dX12_goes_46 : decode cX12_goes 46 = .ok (.aload_n 0, 1) := by decide +kernel
theorem dX12_goes_47 : decode cX12_goes 47 = .ok (.getfield 55, 3) := by decide +kernel
theorem dX12_goes_50 : decode cX12_goes 50 = .ok (.bipush 12, 2) := by decide +kernel
theorem dX12_goes_52 : decode cX12_goes 52 = .ok (.iload_n 2, 1) := by decide +kernel
theorem dX12_goes_53 : decode cX12_goes 53 = .ok (.iadd, 1) := by decide +kernel
theorem dX12_goes_54 : decode cX12_goes 54 = .ok (.dup2, 1) := by decide +kernel
theorem dX12_goes_55 : decode cX12_goes 55 = .ok (.iaload, 1) := by decide +kernel
theorem dX12_goes_56 : decode cX12_goes 56 = .ok (.iload_n 3, 1) := by decide +kernel
theorem dX12_goes_57 : decode cX12_goes 57 = .ok (.aload_n 0, 1) := by decide +kernel
theorem dX12_goes_58 : decode cX12_goes 58 = .ok (.getfield 37, 3) := by decide +kernel
theorem dX12_goes_61 : decode cX12_goes 61 = .ok (.iconst 3, 1) := by decide +kernel
theorem dX12_goes_62 : decode cX12_goes 62 = .ok (.iload_n 2, 1) := by decide +kernel
theorem dX12_goes_63 : decode cX12_goes 63 = .ok (.imul, 1) := by decide +kernel
theorem dX12_goes_64 : decode cX12_goes 64 = .ok (.iconst 1, 1) := by decide +kernel
theorem dX12_goes_65 : decode cX12_goes 65 = .ok (.iadd, 1) := by decide +kernel
theorem dX12_goes_66 : decode cX12_goes 66 = .ok (.iaload, 1) := by decide +kernel
theorem dX12_goes_67 : decode cX12_goes 67 = .ok (.imul, 1) := by decide +kernel
theorem dX12_goes_68 : decode cX12_goes 68 = .ok (.isub, 1) := by decide +kernel
theorem dX12_goes_69 : decode cX12_goes 69 = .ok (.iastore, 1) := by decide +kernel
theorem dX12_goes_70 : decode cX12_goes 70 = .ok (.aload_n 0, 1) := by decide +kernel
theorem dX12_goes_71 : decode cX12_goes 71 = .ok (.getfield 73, 3) := by decide +kernel
theorem dX12_goes_74 : decode cX12_goes 74 = .ok (.iload_n 2, 1) := by decide +kernel
theorem dX12_goes_75 : decode cX12_goes 75 = .ok (.aload_n 0, 1) := by decide +kernel
theorem dX12_goes_76 : decode cX12_goes 76 = .ok (.getfield 55, 3) := by decide +kernel
theorem dX12_goes_79 : decode cX12_goes 79 = .ok (.iload_n 2, 1) := by decide +kernel
theorem dX12_goes_80 : decode cX12_goes 80 = .ok (.iaload, 1) := by decide +kernel
theorem dX12_goes_81 : decode cX12_goes 81 = .ok (.iastore, 1) := by decide +kernel
theorem dX12_goes_82 : decode cX12_goes 82 = .ok (.aload_n 0, 1) := by decide +kernel
theorem dX12_goes_83 : decode cX12_goes 83 = .ok (.getfield 55, 3) := by decide +kernel
theorem dX12_goes_86 : decode cX12_goes 86 = .ok (.bipush 24, 2) := by decide +kernel
theorem dX12_goes_88 : decode cX12_goes 88 = .ok (.iload_n 2, 1) := by decide +kernel
theorem dX12_goes_89 : decode cX12_goes 89 = .ok (.iadd, 1) := by decide +kernel
theorem dX12_goes_90 : decode cX12_goes 90 = .ok (.iconst 0, 1) := by decide +kernel
theorem dX12_goes_91 : decode cX12_goes 91 = .ok (.iastore, 1) := by decide +kernel
theorem dX12_goes_92 : decode cX12_goes 92 = .ok (.aload_n 0, 1) := by decide +kernel
theorem dX12_goes_93 : decode cX12_goes 93 = .ok (.getfield 70, 3) := by decide +kernel
theorem dX12_goes_96 : decode cX12_goes 96 = .ok (.iload_n 2, 1) := by decide +kernel
theorem dX12_goes_97 : decode cX12_goes 97 = .ok (.iconst 0, 1) := by decide +kernel
theorem dX12_goes_98 : decode cX12_goes 98 = .ok (.iastore, 1) := by decide +kernel
theorem dX12_goes_99 : decode cX12_goes 99 = .ok (.iinc 2 1, 3) := by decide +kernel
theorem dX12_goes_102 : decode cX12_goes 102 = .ok (.goto (-95), 3) := by decide +kernel
theorem dX12_goes_105 : decode cX12_goes 105 = .ok (.aload_n 0, 1) := by decide +kernel
theorem dX12_goes_106 : decode cX12_goes 106 = .ok (.getfield 70, 3) := by decide +kernel
theorem dX12_goes_109 : decode cX12_goes 109 = .ok (.aload_n 0, 1) := by decide +kernel
theorem dX12_goes_110 : decode cX12_goes 110 = .ok (.getfield 305, 3) := by decide +kernel
theorem dX12_goes_113 : decode cX12_goes 113 = .ok (.iconst 0, 1) := by decide +kernel
theorem dX12_goes_114 : decode cX12_goes 114 = .ok (.iastore, 1) := by decide +kernel
theorem dX12_goes_115 : decode cX12_goes 115 = .ok (.iconst 0, 1) := by decide +kernel
theorem dX12_goes_116 : decode cX12_goes 116 = .ok (.istore_n 2, 1) := by decide +kernel
theorem dX12_goes_117 : decode cX12_goes 117 = .ok (.iload_n 2, 1) := by decide +kernel
theorem dX12_goes_118 : decode cX12_goes 118 = .ok (.aload_n 0, 1) := by decide +kernel
theorem dX12_goes_119 : decode cX12_goes 119 = .ok (.getfield 308, 3) := by decide +kernel
theorem dX12_goes_122 : decode cX12_goes 122 = .ok (.if_icmp .ge 87, 3) := by decide +kernel
theorem dX12_goes_125 : decode cX12_goes 125 = .ok (.iconst 0, 1) := by decide +kernel
theorem dX12_goes_126 : decode cX12_goes 126 = .ok (.istore_n 3, 1) := by decide +kernel
theorem dX12_goes_127 : decode cX12_goes 127 = .ok (.iload_n 3, 1) := by decide +kernel
theorem dX12_goes_128 : decode cX12_goes 128 = .ok (.iconst 4, 1) := by decide +kernel
theorem dX12_goes_129 : decode cX12_goes 129 = .ok (.if_icmp .ge 32, 3) := by decide +kernel
theorem dX12_goes_132 : decode cX12_goes 132 = .ok (.aload_n 0, 1) := by decide +kernel
theorem dX12_goes_133 : decode cX12_goes 133 = .ok (.getfield 76, 3) := by decide +kernel
theorem dX12_goes_136 : decode cX12_goes 136 = .ok (.iconst 4, 1) := by decide +kernel
theorem dX12_goes_137 : decode cX12_goes 137 = .ok (.iload_n 2, 1) := by decide +kernel
theorem dX12_goes_138 : decode cX12_goes 138 = .ok (.imul, 1) := by decide +kernel
theorem dX12_goes_139 : decode cX12_goes 139 = .ok (.iload_n 3, 1) := by decide +kernel
theorem dX12_goes_140 : decode cX12_goes 140 = .ok (.iadd, 1) := by decide +kernel
theorem dX12_goes_141 : decode cX12_goes 141 = .ok (.aload_n 0, 1) := by decide +kernel
theorem dX12_goes_142 : decode cX12_goes 142 = .ok (.getfield 55, 3) := by decide +kernel
theorem dX12_goes_145 : decode cX12_goes 145 = .ok (.bipush 30, 2) := by decide +kernel
theorem dX12_goes_147 : decode cX12_goes 147 = .ok (.iconst 4, 1) := by decide +kernel
theorem dX12_goes_148 : decode cX12_goes 148 = .ok (.iload_n 2, 1) := by decide +kernel
theorem dX12_goes_149 : decode cX12_goes 149 = .ok (.imul, 1) := by decide +kernel
theorem dX12_goes_150 : decode cX12_goes 150 = .ok (.iadd, 1) := by decide +kernel
theorem dX12_goes_151 : decode cX12_goes 151 = .ok (.iload_n 3, 1) := by decide +kernel
theorem dX12_goes_152 : decode cX12_goes 152 = .ok (.iadd, 1) := by decide +kernel
theorem dX12_goes_153 : decode cX12_goes 153 = .ok (.iaload, 1) := by decide +kernel
theorem dX12_goes_154 : decode cX12_goes 154 = .ok (.iastore, 1) := by decide +kernel
theorem dX12_goes_155 : decode cX12_goes 155 = .ok (.iinc 3 1, 3) := by decide +kernel
theorem dX12_goes_158 : decode cX12_goes 158 = .ok (.goto (-31), 3) := by decide +kernel
theorem dX12_goes_161 : decode cX12_goes 161 = .ok (.aload_n 0, 1) := by decide +kernel
theorem dX12_goes_162 : decode cX12_goes 162 = .ok (.getfield 76, 3) := by decide +kernel
theorem dX12_goes_165 : decode cX12_goes 165 = .ok (.iconst 4, 1) := by decide +kernel
theorem dX12_goes_166 : decode cX12_goes 166 = .ok (.iload_n 2, 1) := by decide +kernel
theorem dX12_goes_167 : decode cX12_goes 167 = .ok (.imul, 1) := by decide +kernel
theorem dX12_goes_168 : decode cX12_goes 168 = .ok (.aload_n 0, 1) := by decide +kernel
theorem dX12_goes_169 : decode cX12_goes 169 = .ok (.getfield 40, 3) := by decide +kernel
theorem dX12_goes_172 : decode cX12_goes 172 = .ok (.iconst 3, 1) := by decide +kernel
theorem dX12_goes_173 : decode cX12_goes 173 = .ok (.iload_n 2, 1) := by decide +kernel
theorem dX12_goes_174 : decode cX12_goes 174 = .ok (.imul, 1) := by decide +kernel
theorem dX12_goes_175 : decode cX12_goes 175 = .ok (.iconst 2, 1) := by decide +kernel
theorem dX12_goes_176 : decode cX12_goes 176 = .ok (.iadd, 1) := by decide +kernel
theorem dX12_goes_177 : decode cX12_goes 177 = .ok (.iaload, 1) := by decide +kernel
theorem dX12_goes_178 : decode cX12_goes 178 = .ok (.iadd, 1) := by decide +kernel
theorem dX12_goes_179 : decode cX12_goes 179 = .ok (.dup2, 1) := by decide +kernel
theorem dX12_goes_180 : decode cX12_goes 180 = .ok (.iaload, 1) := by decide +kernel
theorem dX12_goes_181 : decode cX12_goes 181 = .ok (.aload_n 0, 1) := by decide +kernel
theorem dX12_goes_182 : decode cX12_goes 182 = .ok (.getfield 40, 3) := by decide +kernel
theorem dX12_goes_185 : decode cX12_goes 185 = .ok (.iconst 3, 1) := by decide +kernel
theorem dX12_goes_186 : decode cX12_goes 186 = .ok (.iload_n 2, 1) := by decide +kernel
theorem dX12_goes_187 : decode cX12_goes 187 = .ok (.imul, 1) := by decide +kernel
theorem dX12_goes_188 : decode cX12_goes 188 = .ok (.iconst 1, 1) := by decide +kernel
theorem dX12_goes_189 : decode cX12_goes 189 = .ok (.iadd, 1) := by decide +kernel
theorem dX12_goes_190 : decode cX12_goes 190 = .ok (.iaload, 1) := by decide +kernel
theorem dX12_goes_191 : decode cX12_goes 191 = .ok (.iload_n 1, 1) := by decide +kernel
theorem dX12_goes_192 : decode cX12_goes 192 = .ok (.ifCond .eq 7, 3) := by decide +kernel
theorem dX12_goes_195 : decode cX12_goes 195 = .ok (.iconst 2, 1) := by decide +kernel
theorem dX12_goes_196 : decode cX12_goes 196 = .ok (.goto 4, 3) := by decide +kernel
theorem dX12_goes_199 : decode cX12_goes 199 = .ok (.iconst 1, 1) := by decide +kernel
theorem dX12_goes_200 : decode cX12_goes 200 = .ok (.imul, 1) := by decide +kernel
theorem dX12_goes_201 : decode cX12_goes 201 = .ok (.iadd, 1) := by decide +kernel
theorem dX12_goes_202 : decode cX12_goes 202 = .ok (.iastore, 1) := by decide +kernel
theorem dX12_goes_203 : decode cX12_goes 203 = .ok (.iinc 2 1, 3) := by decide +kernel
theorem dX12_goes_206 : decode cX12_goes 206 = .ok (.goto (-89), 3) := by decide +kernel
theorem dX12_goes_209 : decode cX12_goes 209 = .ok (.aload_n 0, 1) := by decide +kernel
theorem dX12_goes_210 : decode cX12_goes 210 = .ok (.getfield 308, 3) := by decide +kernel
theorem dX12_goes_213 : decode cX12_goes 213 = .ok (.istore_n 2, 1) := by decide +kernel
theorem dX12_goes_214 : decode cX12_goes 214 = .ok (.iload_n 2, 1) := by decide +kernel
theorem dX12_goes_215 : decode cX12_goes 215 = .ok (.bipush 6, 2) := by decide +kernel
theorem dX12_goes_217 : decode cX12_goes 217 = .ok (.if_icmp .ge 33, 3) := by decide +kernel
theorem dX12_goes_220 : decode cX12_goes 220 = .ok (.iconst 0, 1) := by decide +kernel
theorem dX12_goes_221 : decode cX12_goes 221 = .ok (.istore_n 3, 1) := by decide +kernel
theorem dX12_goes_222 : decode cX12_goes 222 = .ok (.iload_n 3, 1) := by decide +kernel
theorem dX12_goes_223 : decode cX12_goes 223 = .ok (.iconst 4, 1) := by decide +kernel
theorem dX12_goes_224 : decode cX12_goes 224 = .ok (.if_icmp .ge 20, 3) := by decide +kernel
theorem dX12_goes_227 : decode cX12_goes 227 = .ok (.aload_n 0, 1) := by decide +kernel
theorem dX12_goes_228 : decode cX12_goes 228 = .ok (.getfield 76, 3) := by decide +kernel
theorem dX12_goes_231 : decode cX12_goes 231 = .ok (.iconst 4, 1) := by decide +kernel
theorem dX12_goes_232 : decode cX12_goes 232 = .ok (.iload_n 2, 1) := by decide +kernel
theorem dX12_goes_233 : decode cX12_goes 233 = .ok (.imul, 1) := by decide +kernel
theorem dX12_goes_234 : decode cX12_goes 234 = .ok (.iload_n 3, 1) := by decide +kernel
theorem dX12_goes_235 : decode cX12_goes 235 = .ok (.iadd, 1) := by decide +kernel
theorem dX12_goes_236 : decode cX12_goes 236 = .ok (.iconst 0, 1) := by decide +kernel
theorem dX12_goes_237 : decode cX12_goes 237 = .ok (.iastore, 1) := by decide +kernel
theorem dX12_goes_238 : decode cX12_goes 238 = .ok (.iinc 3 1, 3) := by decide +kernel
theorem dX12_goes_241 : decode cX12_goes 241 = .ok (.goto (-19), 3) := by decide +kernel
theorem dX12_goes_244 : decode cX12_goes 244 = .ok (.iinc 2 1, 3) := by decide +kernel
theorem dX12_goes_247 : decode cX12_goes 247 = .ok (.goto (-33), 3) := by decide +kernel
theorem dX12_goes_250 : decode cX12_goes 250 = .ok (.iconst 0, 1) := by decide +kernel
theorem dX12_goes_251 : decode cX12_goes 251 = .ok (.istore_n 2, 1) := by decide +kernel
theorem dX12_goes_252 : decode cX12_goes 252 = .ok (.iload_n 2, 1) := by decide +kernel
theorem dX12_goes_253 : decode cX12_goes 253 = .ok (.aload_n 0, 1) := by decide +kernel
theorem dX12_goes_254 : decode cX12_goes 254 = .ok (.getfield 305, 3) := by decide +kernel
theorem dX12_goes_257 : decode cX12_goes 257 = .ok (.if_icmp .ge 35, 3) := by decide +kernel
theorem dX12_goes_260 : decode cX12_goes 260 = .ok (.aload_n 0, 1) := by decide +kernel
theorem dX12_goes_261 : decode cX12_goes 261 = .ok (.getfield 67, 3) := by decide +kernel
theorem dX12_goes_264 : decode cX12_goes 264 = .ok (.iload_n 2, 1) := by decide +kernel
theorem dX12_goes_265 : decode cX12_goes 265 = .ok (.aload_n 0, 1) := by decide +kernel
theorem dX12_goes_266 : decode cX12_goes 266 = .ok (.iload_n 2, 1) := by decide +kernel
theorem dX12_goes_267 : decode cX12_goes 267 = .ok (.invokevirtual 373, 3) := by decide +kernel
theorem dX12_goes_270 : decode cX12_goes 270 = .ok (.iastore, 1) := by decide +kernel
theorem dX12_goes_271 : decode cX12_goes 271 = .ok (.aload_n 0, 1) := by decide +kernel
theorem dX12_goes_272 : decode cX12_goes 272 = .ok (.getfield 55, 3) := by decide +kernel
theorem dX12_goes_275 : decode cX12_goes 275 = .ok (.bipush 18, 2) := by decide +kernel
theorem dX12_goes_277 : decode cX12_goes 277 = .ok (.iload_n 2, 1) := by decide +kernel
theorem dX12_goes_278 : decode cX12_goes 278 = .ok (.iadd, 1) := by decide +kernel
theorem dX12_goes_279 : decode cX12_goes 279 = .ok (.aload_n 0, 1) := by decide +kernel
theorem dX12_goes_280 : decode cX12_goes 280 = .ok (.getfield 67, 3) := by decide +kernel
theorem dX12_goes_283 : decode cX12_goes 283 = .ok (.iload_n 2, 1) := by decide +kernel
theorem dX12_goes_284 : decode cX12_goes 284 = .ok (.iaload, 1) := by decide +kernel
theorem dX12_goes_285 : decode cX12_goes 285 = .ok (.iastore, 1) := by decide +kernel
theorem dX12_goes_286 : decode cX12_goes 286 = .ok (.iinc 2 1, 3) := by decide +kernel
theorem dX12_goes_289 : decode cX12_goes 289 = .ok (.goto (-37), 3) := by decide +kernel
theorem dX12_goes_292 : decode cX12_goes 292 = .ok (.aload_n 0, 1) := by decide +kernel
theorem dX12_goes_293 : decode cX12_goes 293 = .ok (.getfield 67, 3) := by decide +kernel
theorem dX12_goes_296 : decode cX12_goes 296 = .ok (.aload_n 0, 1) := by decide +kernel
theorem dX12_goes_297 : decode cX12_goes 297 = .ok (.getfield 305, 3) := by decide +kernel
theorem dX12_goes_300 : decode cX12_goes 300 = .ok (.aload_n 0, 1) := by decide +kernel
theorem dX12_goes_301 : decode cX12_goes 301 = .ok (.getfield 376, 3) := by decide +kernel
theorem dX12_goes_304 : decode cX12_goes 304 = .ok (.iastore, 1) := by decide +kernel
theorem dX12_goes_305 : decode cX12_goes 305 = .ok (.aload_n 0, 1) := by decide +kernel
theorem dX12_goes_306 : decode cX12_goes 306 = .ok (.invokevirtual 379, 3) := by decide +kernel
theorem dX12_goes_309 : decode cX12_goes 309 = .ok (.aload_n 0, 1) := by decide +kernel
theorem dX12_goes_310 : decode cX12_goes 310 = .ok (.invokevirtual 382, 3) := by decide +kernel
theorem dX12_goes_313 : decode cX12_goes 313 = .ok (.iconst 0, 1) := by decide +kernel
theorem dX12_goes_314 : decode cX12_goes 314 = .ok (.istore_n 2, 1) := by decide +kernel
theorem dX12_goes_315 : decode cX12_goes 315 = .ok (.iload_n 2, 1) := by decide +kernel
theorem dX12_goes_316 : decode cX12_goes 316 = .ok (.aload_n 0, 1) := by decide +kernel
theorem dX12_goes_317 : decode cX12_goes 317 = .ok (.getfield 305, 3) := by decide +kernel
theorem dX12_goes_320 : decode cX12_goes 320 = .ok (.if_icmp .ge 52, 3) := by decide +kernel
theorem dX12_goes_323 : decode cX12_goes 323 = .ok (.aload_n 0, 1) := by decide +kernel
theorem dX12_goes_324 : decode cX12_goes 324 = .ok (.getfield 55, 3) := by decide +kernel
theorem dX12_goes_327 : decode cX12_goes 327 = .ok (.bipush 6, 2) := by decide +kernel
theorem dX12_goes_329 : decode cX12_goes 329 = .ok (.iload_n 2, 1) := by decide +kernel
theorem dX12_goes_330 : decode cX12_goes 330 = .ok (.iadd, 1) := by decide +kernel
theorem dX12_goes_331 : decode cX12_goes 331 = .ok (.aload_n 0, 1) := by decide +kernel
theorem dX12_goes_332 : decode cX12_goes 332 = .ok (.getfield 55, 3) := by decide +kernel
theorem dX12_goes_335 : decode cX12_goes 335 = .ok (.iload_n 2, 1) := by decide +kernel
theorem dX12_goes_336 : decode cX12_goes 336 = .ok (.iaload, 1) := by decide +kernel
theorem dX12_goes_337 : decode cX12_goes 337 = .ok (.iastore, 1) := by decide +kernel
theorem dX12_goes_338 : decode cX12_goes 338 = .ok (.aload_n 0, 1) := by decide +kernel
theorem dX12_goes_339 : decode cX12_goes 339 = .ok (.getfield 55, 3) := by decide +kernel
theorem dX12_goes_342 : decode cX12_goes 342 = .ok (.iload_n 2, 1) := by decide +kernel
theorem dX12_goes_343 : decode cX12_goes 343 = .ok (.dup2, 1) := by decide +kernel
theorem dX12_goes_344 : decode cX12_goes 344 = .ok (.iaload, 1) := by decide +kernel
theorem dX12_goes_345 : decode cX12_goes 345 = .ok (.aload_n 0, 1) := by decide +kernel
theorem dX12_goes_346 : decode cX12_goes 346 = .ok (.getfield 55, 3) := by decide +kernel
theorem dX12_goes_349 : decode cX12_goes 349 = .ok (.iload_n 2, 1) := by decide +kernel
theorem dX12_goes_350 : decode cX12_goes 350 = .ok (.iaload, 1) := by decide +kernel
theorem dX12_goes_351 : decode cX12_goes 351 = .ok (.aload_n 0, 1) := by decide +kernel
theorem dX12_goes_352 : decode cX12_goes 352 = .ok (.getfield 37, 3) := by decide +kernel
theorem dX12_goes_355 : decode cX12_goes 355 = .ok (.iconst 3, 1) := by decide +kernel
theorem dX12_goes_356 : decode cX12_goes 356 = .ok (.iload_n 2, 1) := by decide +kernel
theorem dX12_goes_357 : decode cX12_goes 357 = .ok (.imul, 1) := by decide +kernel
theorem dX12_goes_358 : decode cX12_goes 358 = .ok (.iconst 2, 1) := by decide +kernel
theorem dX12_goes_359 : decode cX12_goes 359 = .ok (.iadd, 1) := by decide +kernel
theorem dX12_goes_360 : decode cX12_goes 360 = .ok (.iaload, 1) := by decide +kernel
theorem dX12_goes_361 : decode cX12_goes 361 = .ok (.invokestatic 345, 3) := by decide +kernel
theorem dX12_goes_364 : decode cX12_goes 364 = .ok (.isub, 1) := by decide +kernel
theorem dX12_goes_365 : decode cX12_goes 365 = .ok (.iastore, 1) := by decide +kernel
theorem dX12_goes_366 : decode cX12_goes 366 = .ok (.iinc 2 1, 3) := by decide +kernel
theorem dX12_goes_369 : decode cX12_goes 369 = .ok (.goto (-54), 3) := by decide +kernel
theorem dX12_goes_372 : decode cX12_goes 372 = .ok (.aload_n 0, 1) := by decide +kernel
theorem dX12_goes_373 : decode cX12_goes 373 = .ok (.getfield 55, 3) := by decide +kernel
theorem dX12_goes_376 : decode cX12_goes 376 = .ok (.bipush 56, 2) := by decide +kernel
theorem dX12_goes_378 : decode cX12_goes 378 = .ok (.dup2, 1) := by decide +kernel
theorem dX12_goes_379 : decode cX12_goes 379 = .ok (.iaload, 1) := by decide +kernel
theorem dX12_goes_380 : decode cX12_goes 380 = .ok (.iconst 1, 1) := by decide +kernel
theorem dX12_goes_381 : decode cX12_goes 381 = .ok (.iadd, 1) := by decide +kernel
theorem dX12_goes_382 : decode cX12_goes 382 = .ok (.iastore, 1) := by decide +kernel
theorem dX12_goes_383 : decode cX12_goes 383 = .ok (.return_, 1) := by decide +kernel
theorem dX12_plainly_0 : decode cX12_plainly 0 = .ok (.aload_n 0, 1) := by decide +kernel
theorem dX12_plainly_1 : decode cX12_plainly 1 = .ok (.aload_n 0, 1) := by decide +kernel
theorem dX12_plainly_2 : decode cX12_plainly 2 = .ok (.getfield 311, 3) := by decide +kernel
theorem dX12_plainly_5 : decode cX12_plainly 5 = .ok (.putfield 342, 3) := by decide +kernel
theorem dX12_plainly_8 : decode cX12_plainly 8 = .ok (.aload_n 0, 1) := by decide +kernel
theorem dX12_plainly_9 : decode cX12_plainly 9 = .ok (.aload_n 0, 1) := by decide +kernel
theorem dX12_plainly_10 : decode cX12_plainly 10 = .ok (.getfield 43, 3) := by decide +kernel
theorem dX12_plainly_13 : decode cX12_plainly 13 = .ok (.iconst 0, 1) := by decide +kernel
theorem dX12_plainly_14 : decode cX12_plainly 14 = .ok (.iaload, 1) := by decide +kernel
theorem dX12_plainly_15 : decode cX12_plainly 15 = .ok (.putfield 370, 3) := by decide +kernel
theorem dX12_plainly_18 : decode cX12_plainly 18 = .ok (.aload_n 0, 1) := by decide +kernel
theorem dX12_plainly_19 : decode cX12_plainly 19 = .ok (.iconst 0, 1) := by decide +kernel
theorem dX12_plainly_20 : decode cX12_plainly 20 = .ok (.putfield 349, 3) := by decide +kernel
theorem dX12_plainly_23 : decode cX12_plainly 23 = .ok (.iconst 0, 1) := by decide +kernel
theorem dX12_plainly_24 : decode cX12_plainly 24 = .ok (.istore_n 1, 1) := by decide +kernel
theorem dX12_plainly_25 : decode cX12_plainly 25 = .ok (.iload_n 1, 1) := by decide +kernel
theorem dX12_plainly_26 : decode cX12_plainly 26 = .ok (.iconst 5, 1) := by decide +kernel
theorem dX12_plainly_27 : decode cX12_plainly 27 = .ok (.if_icmp .ge 16, 3) := by decide +kernel
theorem dX12_plainly_30 : decode cX12_plainly 30 = .ok (.aload_n 0, 1) := by decide +kernel
theorem dX12_plainly_31 : decode cX12_plainly 31 = .ok (.getfield 64, 3) := by decide +kernel
theorem dX12_plainly_34 : decode cX12_plainly 34 = .ok (.iload_n 1, 1) := by decide +kernel
theorem dX12_plainly_35 : decode cX12_plainly 35 = .ok (.iconst (-1), 1) := by decide +kernel
theorem dX12_plainly_36 : decode cX12_plainly 36 = .ok (.iastore, 1) := by decide +kernel
theorem dX12_plainly_37 : decode cX12_plainly 37 = .ok (.iinc 1 1, 3) := by decide +kernel
theorem dX12_plainly_40 : decode cX12_plainly 40 = .ok (.goto (-15), 3) := by decide +kernel
theorem dX12_plainly_43 : decode cX12_plainly 43 = .ok (.return_, 1) := by decide +kernel
theorem dX12_areDays_0 : decode cX12_areDays 0 = .ok (.iload_n 0, 1) := by decide +kernel
theorem dX12_areDays_1 : decode cX12_areDays 1 = .ok (.i2l, 1) := by decide +kernel
theorem dX12_areDays_2 : decode cX12_areDays 2 = .ok (.lconst 1, 1) := by decide +kernel
theorem dX12_areDays_3 : decode cX12_areDays 3 = .ok (.ldc2_w 385, 3) := by decide +kernel
theorem dX12_areDays_6 : decode cX12_areDays 6 = .ok (.invokestatic 253, 3) := by decide +kernel
theorem dX12_areDays_9 : decode cX12_areDays 9 = .ok (.ireturn, 1) := by decide +kernel
theorem dX12_isReady_0 : decode cX12_isReady 0 = .ok (.aload_n 0, 1) := by decide +kernel
theorem dX12_isReady_1 : decode cX12_isReady 1 = .ok (.getfield 305, 3) := by decide +kernel
theorem dX12_isReady_4 : decode cX12_isReady 4 = .ok (.ifCond .le 14, 3) := by decide +kernel
theorem dX12_isReady_7 : decode cX12_isReady 7 = .ok (.iload_n 1, 1) := by decide +kernel
theorem dX12_isReady_8 : decode cX12_isReady 8 = .ok (.invokestatic 387, 3) := by decide +kernel
theorem dX12_isReady_11 : decode cX12_isReady 11 = .ok (.ifCond .eq 7, 3) := by decide +kernel
theorem dX12_isReady_14 : decode cX12_isReady 14 = .ok (.iconst 1, 1) := by decide +kernel
theorem dX12_isReady_15 : decode cX12_isReady 15 = .ok (.goto 4, 3) := by decide +kernel
theorem dX12_isReady_18 : decode cX12_isReady 18 = .ok (.iconst 0, 1) := by decide +kernel
theorem dX12_isReady_19 : decode cX12_isReady 19 = .ok (.ireturn, 1) := by decide +kernel
theorem dX12_days_0 : decode cX12_days 0 = .ok (.aload_n 0, 1) := by decide +kernel
theorem dX12_days_1 : decode cX12_days 1 = .ok (.iconst 0, 1) := by decide +kernel
theorem dX12_days_2 : decode cX12_days 2 = .ok (.putfield 131, 3) := by decide +kernel
theorem dX12_days_5 : decode cX12_days 5 = .ok (.aload_n 0, 1) := by decide +kernel
theorem dX12_days_6 : decode cX12_days 6 = .ok (.iload_n 1, 1) := by decide +kernel
theorem dX12_days_7 : decode cX12_days 7 = .ok (.invokevirtual 390, 3) := by decide +kernel
theorem dX12_days_10 : decode cX12_days 10 = .ok (.ifCond .ne 5, 3) := by decide +kernel
theorem dX12_days_13 : decode cX12_days 13 = .ok (.iconst (-1), 1) := by decide +kernel
theorem dX12_days_14 : decode cX12_days 14 = .ok (.ireturn, 1) := by decide +kernel
theorem dX12_days_15 : decode cX12_days 15 = .ok (.aload_n 0, 1) := by decide +kernel
theorem dX12_days_16 : decode cX12_days 16 = .ok (.invokevirtual 393, 3) := by decide +kernel
theorem dX12_days_19 : decode cX12_days 19 = .ok (.iconst 0, 1) := by decide +kernel
theorem dX12_days_20 : decode cX12_days 20 = .ok (.istore_n 2, 1) := by decide +kernel
theorem dX12_days_21 : decode cX12_days 21 = .ok (.iload_n 2, 1) := by decide +kernel
theorem dX12_days_22 : decode cX12_days 22 = .ok (.iload_n 1, 1) := by decide +kernel
theorem dX12_days_23 : decode cX12_days 23 = .ok (.if_icmp .ge 65, 3) := by decide +kernel
theorem dX12_days_26 : decode cX12_days 26 = .ok (.iconst 0, 1) := by decide +kernel
theorem dX12_days_27 : decode cX12_days 27 = .ok (.istore_n 3, 1) := by decide +kernel
theorem dX12_days_28 : decode cX12_days 28 = .ok (.aload_n 0, 1) := by decide +kernel
theorem dX12_days_29 : decode cX12_days 29 = .ok (.getfield 335, 3) := by decide +kernel
theorem dX12_days_32 : decode cX12_days 32 = .ok (.ifCond .le 45, 3) := by decide +kernel
theorem dX12_days_35 : decode cX12_days 35 = .ok (.aload_n 0, 1) := by decide +kernel
theorem dX12_days_36 : decode cX12_days 36 = .ok (.aload_n 0, 1) := by decide +kernel
theorem dX12_days_37 : decode cX12_days 37 = .ok (.getfield 338, 3) := by decide +kernel
theorem dX12_days_40 : decode cX12_days 40 = .ok (.ldc2_w 396, 3) := by decide +kernel
theorem dX12_days_43 : decode cX12_days 43 = .ok (.lmul, 1) := by decide +kernel
theorem dX12_days_44 : decode cX12_days 44 = .ok (.ldc2_w 398, 3) := by decide +kernel
theorem dX12_days_47 : decode cX12_days 47 = .ok (.ladd, 1) := by decide +kernel
theorem dX12_days_48 : decode cX12_days 48 = .ok (.putfield 338, 3) := by decide +kernel
theorem dX12_days_51 : decode cX12_days 51 = .ok (.aload_n 0, 1) := by decide +kernel
theorem dX12_days_52 : decode cX12_days 52 = .ok (.getfield 338, 3) := by decide +kernel
theorem dX12_days_55 : decode cX12_days 55 = .ok (.bipush 33, 2) := by decide +kernel
theorem dX12_days_57 : decode cX12_days 57 = .ok (.lushr, 1) := by decide +kernel
theorem dX12_days_58 : decode cX12_days 58 = .ok (.ldc2_w 333, 3) := by decide +kernel
theorem dX12_days_61 : decode cX12_days 61 = .ok (.lrem, 1) := by decide +kernel
theorem dX12_days_62 : decode cX12_days 62 = .ok (.aload_n 0, 1) := by decide +kernel
theorem dX12_days_63 : decode cX12_days 63 = .ok (.getfield 335, 3) := by decide +kernel
theorem dX12_days_66 : decode cX12_days 66 = .ok (.i2l, 1) := by decide +kernel
theorem dX12_days_67 : decode cX12_days 67 = .ok (.lcmp, 1) := by decide +kernel
theorem dX12_days_68 : decode cX12_days 68 = .ok (.ifCond .ge 7, 3) := by decide +kernel
theorem dX12_days_71 : decode cX12_days 71 = .ok (.iconst 1, 1) := by decide +kernel
theorem dX12_days_72 : decode cX12_days 72 = .ok (.goto 4, 3) := by decide +kernel
theorem dX12_days_75 : decode cX12_days 75 = .ok (.iconst 0, 1) := by decide +kernel
theorem dX12_days_76 : decode cX12_days 76 = .ok (.istore_n 3, 1) := by decide +kernel
theorem dX12_days_77 : decode cX12_days 77 = .ok (.aload_n 0, 1) := by decide +kernel
theorem dX12_days_78 : decode cX12_days 78 = .ok (.iload_n 3, 1) := by decide +kernel
theorem dX12_days_79 : decode cX12_days 79 = .ok (.invokevirtual 400, 3) := by decide +kernel
theorem dX12_days_82 : decode cX12_days 82 = .ok (.iinc 2 1, 3) := by decide +kernel
theorem dX12_days_85 : decode cX12_days 85 = .ok (.goto (-64), 3) := by decide +kernel
theorem dX12_days_88 : decode cX12_days 88 = .ok (.aload_n 0, 1) := by decide +kernel
theorem dX12_days_89 : decode cX12_days 89 = .ok (.getfield 55, 3) := by decide +kernel
theorem dX12_days_92 : decode cX12_days 92 = .ok (.bipush 54, 2) := by decide +kernel
theorem dX12_days_94 : decode cX12_days 94 = .ok (.iaload, 1) := by decide +kernel
theorem dX12_days_95 : decode cX12_days 95 = .ok (.ireturn, 1) := by decide +kernel
theorem dX12_keep_0 : decode cX12_keep 0 = .ok (.iconst 0, 1) := by decide +kernel
theorem dX12_keep_1 : decode cX12_keep 1 = .ok (.istore_n 1, 1) := by decide +kernel
theorem dX12_keep_2 : decode cX12_keep 2 = .ok (.iload_n 1, 1) := by decide +kernel
theorem dX12_keep_3 : decode cX12_keep 3 = .ok (.bipush 57, 2) := by decide +kernel
theorem dX12_keep_5 : decode cX12_keep 5 = .ok (.if_icmp .ge 21, 3) := by decide +kernel
theorem dX12_keep_8 : decode cX12_keep 8 = .ok (.aload_n 0, 1) := by decide +kernel
theorem dX12_keep_9 : decode cX12_keep 9 = .ok (.getfield 58, 3) := by decide +kernel
theorem dX12_keep_12 : decode cX12_keep 12 = .ok (.iload_n 1, 1) := by decide +kernel
theorem dX12_keep_13 : decode cX12_keep 13 = .ok (.aload_n 0, 1) := by decide +kernel
theorem dX12_keep_14 : decode cX12_keep 14 = .ok (.getfield 55, 3) := by decide +kernel
theorem dX12_keep_17 : decode cX12_keep 17 = .ok (.iload_n 1, 1) := by decide +kernel
theorem dX12_keep_18 : decode cX12_keep 18 = .ok (.iaload, 1) := by decide +kernel
theorem dX12_keep_19 : decode cX12_keep 19 = .ok (.iastore, 1) := by decide +kernel
theorem dX12_keep_20 : decode cX12_keep 20 = .ok (.iinc 1 1, 3) := by decide +kernel
theorem dX12_keep_23 : decode cX12_keep 23 = .ok (.goto (-21), 3) := by decide +kernel
theorem dX12_keep_26 : decode cX12_keep 26 = .ok (.aload_n 0, 1) := by decide +kernel
theorem dX12_keep_27 : decode cX12_keep 27 = .ok (.invokevirtual 393, 3) := by decide +kernel
theorem dX12_keep_30 : decode cX12_keep 30 = .ok (.return_, 1) := by decide +kernel
theorem dX12_putBack_0 : decode cX12_putBack 0 = .ok (.iconst 0, 1) := by decide +kernel
theorem dX12_putBack_1 : decode cX12_putBack 1 = .ok (.istore_n 1, 1) := by decide +kernel
theorem dX12_putBack_2 : decode cX12_putBack 2 = .ok (.iload_n 1, 1) := by decide +kernel
theorem dX12_putBack_3 : decode cX12_putBack 3 = .ok (.bipush 57, 2) := by decide +kernel
theorem dX12_putBack_5 : decode cX12_putBack 5 = .ok (.if_icmp .ge 21, 3) := by decide +kernel
theorem dX12_putBack_8 : decode cX12_putBack 8 = .ok (.aload_n 0, 1) := by decide +kernel
theorem dX12_putBack_9 : decode cX12_putBack 9 = .ok (.getfield 55, 3) := by decide +kernel
theorem dX12_putBack_12 : decode cX12_putBack 12 = .ok (.iload_n 1, 1) := by decide +kernel
theorem dX12_putBack_13 : decode cX12_putBack 13 = .ok (.aload_n 0, 1) := by decide +kernel
theorem dX12_putBack_14 : decode cX12_putBack 14 = .ok (.getfield 58, 3) := by decide +kernel
theorem dX12_putBack_17 : decode cX12_putBack 17 = .ok (.iload_n 1, 1) := by decide +kernel
theorem dX12_putBack_18 : decode cX12_putBack 18 = .ok (.iaload, 1) := by decide +kernel
theorem dX12_putBack_19 : decode cX12_putBack 19 = .ok (.iastore, 1) := by decide +kernel
theorem dX12_putBack_20 : decode cX12_putBack 20 = .ok (.iinc 1 1, 3) := by decide +kernel
theorem dX12_putBack_23 : decode cX12_putBack 23 = .ok (.goto (-21), 3) := by decide +kernel
theorem dX12_putBack_26 : decode cX12_putBack 26 = .ok (.return_, 1) := by decide +kernel
theorem dX12_tries_0 : decode cX12_tries 0 = .ok (.aload_n 0, 1) := by decide +kernel
theorem dX12_tries_1 : decode cX12_tries 1 = .ok (.getfield 88, 3) := by decide +kernel
theorem dX12_tries_4 : decode cX12_tries 4 = .ok (.iconst 0, 1) := by decide +kernel
theorem dX12_tries_5 : decode cX12_tries 5 = .ok (.aload_n 0, 1) := by decide +kernel
theorem dX12_tries_6 : decode cX12_tries 6 = .ok (.getfield 55, 3) := by decide +kernel
theorem dX12_tries_9 : decode cX12_tries 9 = .ok (.bipush 54, 2) := by decide +kernel
theorem dX12_tries_11 : decode cX12_tries 11 = .ok (.iaload, 1) := by decide +kernel
theorem dX12_tries_12 : decode cX12_tries 12 = .ok (.iastore, 1) := by decide +kernel
theorem dX12_tries_13 : decode cX12_tries 13 = .ok (.aload_n 0, 1) := by decide +kernel
theorem dX12_tries_14 : decode cX12_tries 14 = .ok (.getfield 91, 3) := by decide +kernel
theorem dX12_tries_17 : decode cX12_tries 17 = .ok (.iconst 0, 1) := by decide +kernel
theorem dX12_tries_18 : decode cX12_tries 18 = .ok (.iconst 0, 1) := by decide +kernel
theorem dX12_tries_19 : decode cX12_tries 19 = .ok (.bastore, 1) := by decide +kernel
theorem dX12_tries_20 : decode cX12_tries 20 = .ok (.iconst 1, 1) := by decide +kernel
theorem dX12_tries_21 : decode cX12_tries 21 = .ok (.istore_n 2, 1) := by decide +kernel
theorem dX12_tries_22 : decode cX12_tries 22 = .ok (.iload_n 2, 1) := by decide +kernel
theorem dX12_tries_23 : decode cX12_tries 23 = .ok (.iload_n 1, 1) := by decide +kernel
theorem dX12_tries_24 : decode cX12_tries 24 = .ok (.if_icmp .gt 37, 3) := by decide +kernel
theorem dX12_tries_27 : decode cX12_tries 27 = .ok (.aload_n 0, 1) := by decide +kernel
theorem dX12_tries_28 : decode cX12_tries 28 = .ok (.iconst 0, 1) := by decide +kernel
theorem dX12_tries_29 : decode cX12_tries 29 = .ok (.invokevirtual 400, 3) := by decide +kernel
theorem dX12_tries_32 : decode cX12_tries 32 = .ok (.aload_n 0, 1) := by decide +kernel
theorem dX12_tries_33 : decode cX12_tries 33 = .ok (.getfield 88, 3) := by decide +kernel
theorem dX12_tries_36 : decode cX12_tries 36 = .ok (.iload_n 2, 1) := by decide +kernel
theorem dX12_tries_37 : decode cX12_tries 37 = .ok (.aload_n 0, 1) := by decide +kernel
theorem dX12_tries_38 : decode cX12_tries 38 = .ok (.getfield 55, 3) := by decide +kernel
theorem dX12_tries_41 : decode cX12_tries 41 = .ok (.bipush 54, 2) := by decide +kernel
theorem dX12_tries_43 : decode cX12_tries 43 = .ok (.iaload, 1) := by decide +kernel
theorem dX12_tries_44 : decode cX12_tries 44 = .ok (.iastore, 1) := by decide +kernel
theorem dX12_tries_45 : decode cX12_tries 45 = .ok (.aload_n 0, 1) := by decide +kernel
theorem dX12_tries_46 : decode cX12_tries 46 = .ok (.getfield 91, 3) := by decide +kernel
theorem dX12_tries_49 : decode cX12_tries 49 = .ok (.iload_n 2, 1) := by decide +kernel
theorem dX12_tries_50 : decode cX12_tries 50 = .ok (.aload_n 0, 1) := by decide +kernel
theorem dX12_tries_51 : decode cX12_tries 51 = .ok (.getfield 367, 3) := by decide +kernel
theorem dX12_tries_54 : decode cX12_tries 54 = .ok (.bastore, 1) := by decide +kernel
theorem dX12_tries_55 : decode cX12_tries 55 = .ok (.iinc 2 1, 3) := by decide +kernel
theorem dX12_tries_58 : decode cX12_tries 58 = .ok (.goto (-36), 3) := by decide +kernel
theorem dX12_tries_61 : decode cX12_tries 61 = .ok (.return_, 1) := by decide +kernel
theorem dX12_jumpMany_0 : decode cX12_jumpMany 0 = .ok (.iconst 0, 1) := by decide +kernel
theorem dX12_jumpMany_1 : decode cX12_jumpMany 1 = .ok (.istore_n 2, 1) := by decide +kernel
theorem dX12_jumpMany_2 : decode cX12_jumpMany 2 = .ok (.iconst 1, 1) := by decide +kernel
theorem dX12_jumpMany_3 : decode cX12_jumpMany 3 = .ok (.istore_n 3, 1) := by decide +kernel
theorem dX12_jumpMany_4 : decode cX12_jumpMany 4 = .ok (.iload_n 3, 1) := by decide +kernel
theorem dX12_jumpMany_5 : decode cX12_jumpMany 5 = .ok (.iload_n 1, 1) := by decide +kernel
theorem dX12_jumpMany_6 : decode cX12_jumpMany 6 = .ok (.if_icmp .gt 26, 3) := by decide +kernel
theorem dX12_jumpMany_9 : decode cX12_jumpMany 9 = .ok (.iload_n 2, 1) := by decide +kernel
theorem dX12_jumpMany_10 : decode cX12_jumpMany 10 = .ok (.aload_n 0, 1) := by decide +kernel
theorem dX12_jumpMany_11 : decode cX12_jumpMany 11 = .ok (.getfield 91, 3) := by decide +kernel
theorem dX12_jumpMany_14 : decode cX12_jumpMany 14 = .ok (.iload_n 3, 1) := by decide +kernel
theorem dX12_jumpMany_15 : decode cX12_jumpMany 15 = .ok (.baload, 1) := by decide +kernel
theorem dX12_jumpMany_16 : decode cX12_jumpMany 16 = .ok (.ifCond .eq 7, 3) := by decide +kernel
theorem dX12_jumpMany_19 : decode cX12_jumpMany 19 = .ok (.iconst 1, 1) := by decide +kernel
theorem dX12_jumpMany_20 : decode cX12_jumpMany 20 = .ok (.goto 4, 3) := by decide +kernel
theorem dX12_jumpMany_23 : decode cX12_jumpMany 23 = .ok (.iconst 0, 1) := by decide +kernel
theorem dX12_jumpMany_24 : decode cX12_jumpMany 24 = .ok (.iadd, 1) := by decide +kernel
theorem dX12_jumpMany_25 : decode cX12_jumpMany 25 = .ok (.istore_n 2, 1) := by decide +kernel
theorem dX12_jumpMany_26 : decode cX12_jumpMany 26 = .ok (.iinc 3 1, 3) := by decide +kernel
theorem dX12_jumpMany_29 : decode cX12_jumpMany 29 = .ok (.goto (-25), 3) := by decide +kernel
theorem dX12_jumpMany_32 : decode cX12_jumpMany 32 = .ok (.iload_n 2, 1) := by decide +kernel
theorem dX12_jumpMany_33 : decode cX12_jumpMany 33 = .ok (.ireturn, 1) := by decide +kernel
theorem dX12_ahead_0 : decode cX12_ahead 0 = .ok (.aload_n 0, 1) := by decide +kernel
theorem dX12_ahead_1 : decode cX12_ahead 1 = .ok (.iconst 0, 1) := by decide +kernel
theorem dX12_ahead_2 : decode cX12_ahead 2 = .ok (.putfield 131, 3) := by decide +kernel
theorem dX12_ahead_5 : decode cX12_ahead 5 = .ok (.aload_n 0, 1) := by decide +kernel
theorem dX12_ahead_6 : decode cX12_ahead 6 = .ok (.iload_n 1, 1) := by decide +kernel
theorem dX12_ahead_7 : decode cX12_ahead 7 = .ok (.invokevirtual 390, 3) := by decide +kernel
theorem dX12_ahead_10 : decode cX12_ahead 10 = .ok (.ifCond .ne 5, 3) := by decide +kernel
theorem dX12_ahead_13 : decode cX12_ahead 13 = .ok (.iconst (-1), 1) := by decide +kernel
theorem dX12_ahead_14 : decode cX12_ahead 14 = .ok (.ireturn, 1) := by decide +kernel
theorem dX12_ahead_15 : decode cX12_ahead 15 = .ok (.aload_n 0, 1) := by decide +kernel
theorem dX12_ahead_16 : decode cX12_ahead 16 = .ok (.invokevirtual 404, 3) := by decide +kernel
theorem dX12_ahead_19 : decode cX12_ahead 19 = .ok (.aload_n 0, 1) := by decide +kernel
theorem dX12_ahead_20 : decode cX12_ahead 20 = .ok (.iload_n 1, 1) := by decide +kernel
theorem dX12_ahead_21 : decode cX12_ahead 21 = .ok (.invokevirtual 407, 3) := by decide +kernel
theorem dX12_ahead_24 : decode cX12_ahead 24 = .ok (.aload_n 0, 1) := by decide +kernel
theorem dX12_ahead_25 : decode cX12_ahead 25 = .ok (.invokevirtual 410, 3) := by decide +kernel
theorem dX12_ahead_28 : decode cX12_ahead 28 = .ok (.aload_n 0, 1) := by decide +kernel
theorem dX12_ahead_29 : decode cX12_ahead 29 = .ok (.getfield 88, 3) := by decide +kernel
theorem dX12_ahead_32 : decode cX12_ahead 32 = .ok (.iload_n 1, 1) := by decide +kernel
theorem dX12_ahead_33 : decode cX12_ahead 33 = .ok (.iaload, 1) := by decide +kernel
theorem dX12_ahead_34 : decode cX12_ahead 34 = .ok (.ireturn, 1) := by decide +kernel
theorem dX12_falls_0 : decode cX12_falls 0 = .ok (.aload_n 0, 1) := by decide +kernel
theorem dX12_falls_1 : decode cX12_falls 1 = .ok (.iconst 0, 1) := by decide +kernel
theorem dX12_falls_2 : decode cX12_falls 2 = .ok (.putfield 131, 3) := by decide +kernel
theorem dX12_falls_5 : decode cX12_falls 5 = .ok (.aload_n 0, 1) := by decide +kernel
theorem dX12_falls_6 : decode cX12_falls 6 = .ok (.iload_n 1, 1) := by decide +kernel
theorem dX12_falls_7 : decode cX12_falls 7 = .ok (.invokevirtual 390, 3) := by decide +kernel
theorem dX12_falls_10 : decode cX12_falls 10 = .ok (.ifCond .eq 13, 3) := by decide +kernel
theorem dX12_falls_13 : decode cX12_falls 13 = .ok (.iload_n 2, 1) := by decide +kernel
theorem dX12_falls_14 : decode cX12_falls 14 = .ok (.i2l, 1) := by decide +kernel
theorem dX12_falls_15 : decode cX12_falls 15 = .ok (.lconst 0, 1) := by decide +kernel
theorem dX12_falls_16 : decode cX12_falls 16 = .ok (.lconst 1, 1) := by decide +kernel
theorem dX12_falls_17 : decode cX12_falls 17 = .ok (.invokestatic 253, 3) := by decide +kernel
theorem dX12_falls_20 : decode cX12_falls 20 = .ok (.ifCond .ne 5, 3) := by decide +kernel
theorem dX12_falls_23 : decode cX12_falls 23 = .ok (.iconst (-1), 1) := by decide +kernel
theorem dX12_falls_24 : decode cX12_falls 24 = .ok (.ireturn, 1) := by decide +kernel
theorem dX12_falls_25 : decode cX12_falls 25 = .ok (.aload_n 0, 1) := by decide +kernel
theorem dX12_falls_26 : decode cX12_falls 26 = .ok (.invokevirtual 404, 3) := by decide +kernel
theorem dX12_falls_29 : decode cX12_falls 29 = .ok (.aload_n 0, 1) := by decide +kernel
theorem dX12_falls_30 : decode cX12_falls 30 = .ok (.iload_n 1, 1) := by decide +kernel
theorem dX12_falls_31 : decode cX12_falls 31 = .ok (.invokevirtual 407, 3) := by decide +kernel
theorem dX12_falls_34 : decode cX12_falls 34 = .ok (.aload_n 0, 1) := by decide +kernel
theorem dX12_falls_35 : decode cX12_falls 35 = .ok (.invokevirtual 410, 3) := by decide +kernel
theorem dX12_falls_38 : decode cX12_falls 38 = .ok (.iload_n 2, 1) := by decide +kernel
theorem dX12_falls_39 : decode cX12_falls 39 = .ok (.ifCond .ne 9, 3) := by decide +kernel
theorem dX12_falls_42 : decode cX12_falls 42 = .ok (.aload_n 0, 1) := by decide +kernel
theorem dX12_falls_43 : decode cX12_falls 43 = .ok (.iload_n 1, 1) := by decide +kernel
theorem dX12_falls_44 : decode cX12_falls 44 = .ok (.invokevirtual 413, 3) := by decide +kernel
theorem dX12_falls_47 : decode cX12_falls 47 = .ok (.ireturn, 1) := by decide +kernel
theorem dX12_falls_48 : decode cX12_falls 48 = .ok (.iconst 0, 1) := by decide +kernel
theorem dX12_falls_49 : decode cX12_falls 49 = .ok (.istore_n 3, 1) := by decide +kernel
theorem dX12_falls_50 : decode cX12_falls 50 = .ok (.iconst 0, 1) := by decide +kernel
theorem dX12_falls_51 : decode cX12_falls 51 = .ok (.istore 4, 2) := by decide +kernel
theorem dX12_falls_53 : decode cX12_falls 53 = .ok (.iload 4, 2) := by decide +kernel
theorem dX12_falls_55 : decode cX12_falls 55 = .ok (.iload_n 1, 1) := by decide +kernel
theorem dX12_falls_56 : decode cX12_falls 56 = .ok (.if_icmp .ge 57, 3) := by decide +kernel
theorem dX12_falls_59 : decode cX12_falls 59 = .ok (.iload 4, 2) := by decide +kernel
theorem dX12_falls_61 : decode cX12_falls 61 = .ok (.iconst 1, 1) := by decide +kernel
theorem dX12_falls_62 : decode cX12_falls 62 = .ok (.iadd, 1) := by decide +kernel
theorem dX12_falls_63 : decode cX12_falls 63 = .ok (.istore 5, 2) := by decide +kernel
theorem dX12_falls_65 : decode cX12_falls 65 = .ok (.iload 5, 2) := by decide +kernel
theorem dX12_falls_67 : decode cX12_falls 67 = .ok (.iload_n 1, 1) := by decide +kernel
theorem dX12_falls_68 : decode cX12_falls 68 = .ok (.if_icmp .gt 39, 3) := by decide +kernel
theorem dX12_falls_71 : decode cX12_falls 71 = .ok (.aload_n 0, 1) := by decide +kernel
theorem dX12_falls_72 : decode cX12_falls 72 = .ok (.getfield 91, 3) := by decide +kernel
theorem dX12_falls_75 : decode cX12_falls 75 = .ok (.iload 5, 2) := by decide +kernel
theorem dX12_falls_77 : decode cX12_falls 77 = .ok (.baload, 1) := by decide +kernel
theorem dX12_falls_78 : decode cX12_falls 78 = .ok (.ifCond .ne 29, 3) := by decide +kernel
theorem dX12_falls_81 : decode cX12_falls 81 = .ok (.iload_n 3, 1) := by decide +kernel
theorem dX12_falls_82 : decode cX12_falls 82 = .ok (.aload_n 0, 1) := by decide +kernel
theorem dX12_falls_83 : decode cX12_falls 83 = .ok (.getfield 88, 3) := by decide +kernel
theorem dX12_falls_86 : decode cX12_falls 86 = .ok (.iload 4, 2) := by decide +kernel
theorem dX12_falls_88 : decode cX12_falls 88 = .ok (.iaload, 1) := by decide +kernel
theorem dX12_falls_89 : decode cX12_falls 89 = .ok (.aload_n 0, 1) := by decide +kernel
theorem dX12_falls_90 : decode cX12_falls 90 = .ok (.getfield 88, 3) := by decide +kernel
theorem dX12_falls_93 : decode cX12_falls 93 = .ok (.iload 5, 2) := by decide +kernel
theorem dX12_falls_95 : decode cX12_falls 95 = .ok (.iaload, 1) := by decide +kernel
theorem dX12_falls_96 : decode cX12_falls 96 = .ok (.isub, 1) := by decide +kernel
theorem dX12_falls_97 : decode cX12_falls 97 = .ok (.invokestatic 347, 3) := by decide +kernel
theorem dX12_falls_100 : decode cX12_falls 100 = .ok (.istore_n 3, 1) := by decide +kernel
theorem dX12_falls_101 : decode cX12_falls 101 = .ok (.iinc 5 1, 3) := by decide +kernel
theorem dX12_falls_104 : decode cX12_falls 104 = .ok (.goto (-39), 3) := by decide +kernel
theorem dX12_falls_107 : decode cX12_falls 107 = .ok (.iinc 4 1, 3) := by decide +kernel
theorem dX12_falls_110 : decode cX12_falls 110 = .ok (.goto (-57), 3) := by decide +kernel
theorem dX12_falls_113 : decode cX12_falls 113 = .ok (.iload_n 3, 1) := by decide +kernel
theorem dX12_falls_114 : decode cX12_falls 114 = .ok (.ireturn, 1) := by decide +kernel
theorem dX12_keepState_0 : decode cX12_keepState 0 = .ok (.bipush 35, 2) := by decide +kernel
theorem dX12_keepState_2 : decode cX12_keepState 2 = .ok (.iload_n 1, 1) := by decide +kernel
theorem dX12_keepState_3 : decode cX12_keepState 3 = .ok (.imul, 1) := by decide +kernel
theorem dX12_keepState_4 : decode cX12_keepState 4 = .ok (.istore_n 2, 1) := by decide +kernel
theorem dX12_keepState_5 : decode cX12_keepState 5 = .ok (.iconst 0, 1) := by decide +kernel
theorem dX12_keepState_6 : decode cX12_keepState 6 = .ok (.istore_n 3, 1) := by decide +kernel
theorem dX12_keepState_7 : decode cX12_keepState 7 = .ok (.iload_n 3, 1) := by decide +kernel
theorem dX12_keepState_8 : decode cX12_keepState 8 = .ok (.iconst 5, 1) := by decide +kernel
theorem dX12_keepState_9 : decode cX12_keepState 9 = .ok (.if_icmp .ge 46, 3) := by decide +kernel
theorem dX12_keepState_12 : decode cX12_keepState 12 = .ok (.aload_n 0, 1) := by decide +kernel
theorem dX12_keepState_13 : decode cX12_keepState 13 = .ok (.getfield 95, 3) := by decide +kernel
theorem dX12_keepState_16 : decode cX12_keepState 16 = .ok (.iload_n 2, 1) := by decide +kernel
theorem dX12_keepState_17 : decode cX12_keepState 17 = .ok (.iconst 2, 1) := by decide +kernel
theorem dX12_keepState_18 : decode cX12_keepState 18 = .ok (.iload_n 3, 1) := by decide +kernel
theorem dX12_keepState_19 : decode cX12_keepState 19 = .ok (.imul, 1) := by decide +kernel
theorem dX12_keepState_20 : decode cX12_keepState 20 = .ok (.iadd, 1) := by decide +kernel
theorem dX12_keepState_21 : decode cX12_keepState 21 = .ok (.aload_n 0, 1) := by decide +kernel
theorem dX12_keepState_22 : decode cX12_keepState 22 = .ok (.getfield 55, 3) := by decide +kernel
theorem dX12_keepState_25 : decode cX12_keepState 25 = .ok (.iload_n 3, 1) := by decide +kernel
theorem dX12_keepState_26 : decode cX12_keepState 26 = .ok (.iaload, 1) := by decide +kernel
theorem dX12_keepState_27 : decode cX12_keepState 27 = .ok (.iastore, 1) := by decide +kernel
theorem dX12_keepState_28 : decode cX12_keepState 28 = .ok (.aload_n 0, 1) := by decide +kernel
theorem dX12_keepState_29 : decode cX12_keepState 29 = .ok (.getfield 95, 3) := by decide +kernel
theorem dX12_keepState_32 : decode cX12_keepState 32 = .ok (.iload_n 2, 1) := by decide +kernel
theorem dX12_keepState_33 : decode cX12_keepState 33 = .ok (.iconst 2, 1) := by decide +kernel
theorem dX12_keepState_34 : decode cX12_keepState 34 = .ok (.iload_n 3, 1) := by decide +kernel
theorem dX12_keepState_35 : decode cX12_keepState 35 = .ok (.imul, 1) := by decide +kernel
theorem dX12_keepState_36 : decode cX12_keepState 36 = .ok (.iadd, 1) := by decide +kernel
theorem dX12_keepState_37 : decode cX12_keepState 37 = .ok (.iconst 1, 1) := by decide +kernel
theorem dX12_keepState_38 : decode cX12_keepState 38 = .ok (.iadd, 1) := by decide +kernel
theorem dX12_keepState_39 : decode cX12_keepState 39 = .ok (.aload_n 0, 1) := by decide +kernel
theorem dX12_keepState_40 : decode cX12_keepState 40 = .ok (.getfield 55, 3) := by decide +kernel
theorem dX12_keepState_43 : decode cX12_keepState 43 = .ok (.bipush 6, 2) := by decide +kernel
theorem dX12_keepState_45 : decode cX12_keepState 45 = .ok (.iload_n 3, 1) := by decide +kernel
theorem dX12_keepState_46 : decode cX12_keepState 46 = .ok (.iadd, 1) := by decide +kernel
theorem dX12_keepState_47 : decode cX12_keepState 47 = .ok (.iaload, 1) := by decide +kernel
theorem dX12_keepState_48 : decode cX12_keepState 48 = .ok (.iastore, 1) := by decide +kernel
theorem dX12_keepState_49 : decode cX12_keepState 49 = .ok (.iinc 3 1, 3) := by decide +kernel
theorem dX12_keepState_52 : decode cX12_keepState 52 = .ok (.goto (-45), 3) := by decide +kernel
theorem dX12_keepState_55 : decode cX12_keepState 55 = .ok (.iconst 0, 1) := by decide +kernel
theorem dX12_keepState_56 : decode cX12_keepState 56 = .ok (.istore_n 3, 1) := by decide +kernel
theorem dX12_keepState_57 : decode cX12_keepState 57 = .ok (.iload_n 3, 1) := by decide +kernel
theorem dX12_keepState_58 : decode cX12_keepState 58 = .ok (.bipush 24, 2) := by decide +kernel
theorem dX12_keepState_60 : decode cX12_keepState 60 = .ok (.if_icmp .ge 29, 3) := by decide +kernel
theorem dX12_keepState_63 : decode cX12_keepState 63 = .ok (.aload_n 0, 1) := by decide +kernel
theorem dX12_keepState_64 : decode cX12_keepState 64 = .ok (.getfield 95, 3) := by decide +kernel
theorem dX12_keepState_67 : decode cX12_keepState 67 = .ok (.iload_n 2, 1) := by decide +kernel
theorem dX12_keepState_68 : decode cX12_keepState 68 = .ok (.bipush 10, 2) := by decide +kernel
theorem dX12_keepState_70 : decode cX12_keepState 70 = .ok (.iadd, 1) := by decide +kernel
theorem dX12_keepState_71 : decode cX12_keepState 71 = .ok (.iload_n 3, 1) := by decide +kernel
theorem dX12_keepState_72 : decode cX12_keepState 72 = .ok (.iadd, 1) := by decide +kernel
theorem dX12_keepState_73 : decode cX12_keepState 73 = .ok (.aload_n 0, 1) := by decide +kernel
theorem dX12_keepState_74 : decode cX12_keepState 74 = .ok (.getfield 55, 3) := by decide +kernel
theorem dX12_keepState_77 : decode cX12_keepState 77 = .ok (.bipush 30, 2) := by decide +kernel
theorem dX12_keepState_79 : decode cX12_keepState 79 = .ok (.iload_n 3, 1) := by decide +kernel
theorem dX12_keepState_80 : decode cX12_keepState 80 = .ok (.iadd, 1) := by decide +kernel
theorem dX12_keepState_81 : decode cX12_keepState 81 = .ok (.iaload, 1) := by decide +kernel
theorem dX12_keepState_82 : decode cX12_keepState 82 = .ok (.iastore, 1) := by decide +kernel
theorem dX12_keepState_83 : decode cX12_keepState 83 = .ok (.iinc 3 1, 3) := by decide +kernel
theorem dX12_keepState_86 : decode cX12_keepState 86 = .ok (.goto (-29), 3) := by decide +kernel
theorem dX12_keepState_89 : decode cX12_keepState 89 = .ok (.aload_n 0, 1) := by decide +kernel
theorem dX12_keepState_90 : decode cX12_keepState 90 = .ok (.getfield 95, 3) := by decide +kernel
theorem dX12_keepState_93 : decode cX12_keepState 93 = .ok (.iload_n 2, 1) := by decide +kernel
theorem dX12_keepState_94 : decode cX12_keepState 94 = .ok (.bipush 35, 2) := by decide +kernel
theorem dX12_keepState_96 : decode cX12_keepState 96 = .ok (.iadd, 1) := by decide +kernel
theorem dX12_keepState_97 : decode cX12_keepState 97 = .ok (.iconst 1, 1) := by decide +kernel
theorem dX12_keepState_98 : decode cX12_keepState 98 = .ok (.isub, 1) := by decide +kernel
theorem dX12_keepState_99 : decode cX12_keepState 99 = .ok (.aload_n 0, 1) := by decide +kernel
theorem dX12_keepState_100 : decode cX12_keepState 100 = .ok (.getfield 55, 3) := by decide +kernel
theorem dX12_keepState_103 : decode cX12_keepState 103 = .ok (.bipush 54, 2) := by decide +kernel
theorem dX12_keepState_105 : decode cX12_keepState 105 = .ok (.iaload, 1) := by decide +kernel
theorem dX12_keepState_106 : decode cX12_keepState 106 = .ok (.iastore, 1) := by decide +kernel
theorem dX12_keepState_107 : decode cX12_keepState 107 = .ok (.return_, 1) := by decide +kernel
theorem dX12_areAlike_0 : decode cX12_areAlike 0 = .ok (.iconst 0, 1) := by decide +kernel
theorem dX12_areAlike_1 : decode cX12_areAlike 1 = .ok (.istore_n 3, 1) := by decide +kernel
theorem dX12_areAlike_2 : decode cX12_areAlike 2 = .ok (.iload_n 3, 1) := by decide +kernel
theorem dX12_areAlike_3 : decode cX12_areAlike 3 = .ok (.bipush 35, 2) := by decide +kernel
theorem dX12_areAlike_5 : decode cX12_areAlike 5 = .ok (.if_icmp .ge 36, 3) := by decide +kernel
theorem dX12_areAlike_8 : decode cX12_areAlike 8 = .ok (.aload_n 0, 1) := by decide +kernel
theorem dX12_areAlike_9 : decode cX12_areAlike 9 = .ok (.getfield 95, 3) := by decide +kernel
theorem dX12_areAlike_12 : decode cX12_areAlike 12 = .ok (.bipush 35, 2) := by decide +kernel
theorem dX12_areAlike_14 : decode cX12_areAlike 14 = .ok (.iload_n 1, 1) := by decide +kernel
theorem dX12_areAlike_15 : decode cX12_areAlike 15 = .ok (.imul, 1) := by decide +kernel
theorem dX12_areAlike_16 : decode cX12_areAlike 16 = .ok (.iload_n 3, 1) := by decide +kernel
theorem dX12_areAlike_17 : decode cX12_areAlike 17 = .ok (.iadd, 1) := by decide +kernel
theorem dX12_areAlike_18 : decode cX12_areAlike 18 = .ok (.iaload, 1) := by decide +kernel
theorem dX12_areAlike_19 : decode cX12_areAlike 19 = .ok (.aload_n 0, 1) := by decide +kernel
theorem dX12_areAlike_20 : decode cX12_areAlike 20 = .ok (.getfield 95, 3) := by decide +kernel
theorem dX12_areAlike_23 : decode cX12_areAlike 23 = .ok (.bipush 35, 2) := by decide +kernel
theorem dX12_areAlike_25 : decode cX12_areAlike 25 = .ok (.iload_n 2, 1) := by decide +kernel
theorem dX12_areAlike_26 : decode cX12_areAlike 26 = .ok (.imul, 1) := by decide +kernel
theorem dX12_areAlike_27 : decode cX12_areAlike 27 = .ok (.iload_n 3, 1) := by decide +kernel
theorem dX12_areAlike_28 : decode cX12_areAlike 28 = .ok (.iadd, 1) := by decide +kernel
theorem dX12_areAlike_29 : decode cX12_areAlike 29 = .ok (.iaload, 1) := by decide +kernel
theorem dX12_areAlike_30 : decode cX12_areAlike 30 = .ok (.if_icmp .eq 5, 3) := by decide +kernel
theorem dX12_areAlike_33 : decode cX12_areAlike 33 = .ok (.iconst 0, 1) := by decide +kernel
theorem dX12_areAlike_34 : decode cX12_areAlike 34 = .ok (.ireturn, 1) := by decide +kernel
theorem dX12_areAlike_35 : decode cX12_areAlike 35 = .ok (.iinc 3 1, 3) := by decide +kernel
theorem dX12_areAlike_38 : decode cX12_areAlike 38 = .ok (.goto (-36), 3) := by decide +kernel
theorem dX12_areAlike_41 : decode cX12_areAlike 41 = .ok (.iconst 1, 1) := by decide +kernel
theorem dX12_areAlike_42 : decode cX12_areAlike 42 = .ok (.ireturn, 1) := by decide +kernel
theorem dX12_ring_0 : decode cX12_ring 0 = .ok (.aload_n 0, 1) := by decide +kernel
theorem dX12_ring_1 : decode cX12_ring 1 = .ok (.iconst 0, 1) := by decide +kernel
theorem dX12_ring_2 : decode cX12_ring 2 = .ok (.putfield 131, 3) := by decide +kernel
theorem dX12_ring_5 : decode cX12_ring 5 = .ok (.aload_n 0, 1) := by decide +kernel
theorem dX12_ring_6 : decode cX12_ring 6 = .ok (.getfield 305, 3) := by decide +kernel
theorem dX12_ring_9 : decode cX12_ring 9 = .ok (.ifCond .eq 13, 3) := by decide +kernel
theorem dX12_ring_12 : decode cX12_ring 12 = .ok (.iload_n 1, 1) := by decide +kernel
theorem dX12_ring_13 : decode cX12_ring 13 = .ok (.i2l, 1) := by decide +kernel
theorem dX12_ring_14 : decode cX12_ring 14 = .ok (.lconst 0, 1) := by decide +kernel
theorem dX12_ring_15 : decode cX12_ring 15 = .ok (.lconst 1, 1) := by decide +kernel
theorem dX12_ring_16 : decode cX12_ring 16 = .ok (.invokestatic 253, 3) := by decide +kernel
theorem dX12_ring_19 : decode cX12_ring 19 = .ok (.ifCond .ne 5, 3) := by decide +kernel
theorem dX12_ring_22 : decode cX12_ring 22 = .ok (.iconst (-1), 1) := by decide +kernel
theorem dX12_ring_23 : decode cX12_ring 23 = .ok (.ireturn, 1) := by decide +kernel
theorem dX12_ring_24 : decode cX12_ring 24 = .ok (.aload_n 0, 1) := by decide +kernel
theorem dX12_ring_25 : decode cX12_ring 25 = .ok (.invokevirtual 404, 3) := by decide +kernel
theorem dX12_ring_28 : decode cX12_ring 28 = .ok (.iconst (-1), 1) := by decide +kernel
theorem dX12_ring_29 : decode cX12_ring 29 = .ok (.istore_n 2, 1) := by decide +kernel
theorem dX12_ring_30 : decode cX12_ring 30 = .ok (.iconst (-1), 1) := by decide +kernel
theorem dX12_ring_31 : decode cX12_ring 31 = .ok (.istore_n 3, 1) := by decide +kernel
theorem dX12_ring_32 : decode cX12_ring 32 = .ok (.iconst 0, 1) := by decide +kernel
theorem dX12_ring_33 : decode cX12_ring 33 = .ok (.istore 4, 2) := by decide +kernel
theorem dX12_ring_35 : decode cX12_ring 35 = .ok (.iload 4, 2) := by decide +kernel
theorem dX12_ring_37 : decode cX12_ring 37 = .ok (.bipush 60, 2) := by decide +kernel
theorem dX12_ring_39 : decode cX12_ring 39 = .ok (.if_icmp .gt 69, 3) := by decide +kernel
theorem dX12_ring_42 : decode cX12_ring 42 = .ok (.iload_n 2, 1) := by decide +kernel
theorem dX12_ring_43 : decode cX12_ring 43 = .ok (.iconst (-1), 1) := by decide +kernel
theorem dX12_ring_44 : decode cX12_ring 44 = .ok (.if_icmp .ne 64, 3) := by decide +kernel
theorem dX12_ring_47 : decode cX12_ring 47 = .ok (.aload_n 0, 1) := by decide +kernel
theorem dX12_ring_48 : decode cX12_ring 48 = .ok (.iload 4, 2) := by decide +kernel
theorem dX12_ring_50 : decode cX12_ring 50 = .ok (.invokevirtual 416, 3) := by decide +kernel
theorem dX12_ring_53 : decode cX12_ring 53 = .ok (.iconst 0, 1) := by decide +kernel
theorem dX12_ring_54 : decode cX12_ring 54 = .ok (.istore 5, 2) := by decide +kernel
theorem dX12_ring_56 : decode cX12_ring 56 = .ok (.iload 5, 2) := by decide +kernel
theorem dX12_ring_58 : decode cX12_ring 58 = .ok (.iload 4, 2) := by decide +kernel
theorem dX12_ring_60 : decode cX12_ring 60 = .ok (.if_icmp .ge 37, 3) := by decide +kernel
theorem dX12_ring_63 : decode cX12_ring 63 = .ok (.iload_n 2, 1) := by decide +kernel
theorem dX12_ring_64 : decode cX12_ring 64 = .ok (.iconst (-1), 1) := by decide +kernel
theorem dX12_ring_65 : decode cX12_ring 65 = .ok (.if_icmp .ne 32, 3) := by decide +kernel
theorem dX12_ring_68 : decode cX12_ring 68 = .ok (.aload_n 0, 1) := by decide +kernel
theorem dX12_ring_69 : decode cX12_ring 69 = .ok (.iload 5, 2) := by decide +kernel
theorem dX12_ring_71 : decode cX12_ring 71 = .ok (.iload 4, 2) := by decide +kernel
theorem dX12_ring_73 : decode cX12_ring 73 = .ok (.invokevirtual 419, 3) := by decide +kernel
theorem dX12_ring_76 : decode cX12_ring 76 = .ok (.ifCond .ne 6, 3) := by decide +kernel
theorem dX12_ring_79 : decode cX12_ring 79 = .ok (.goto 12, 3) := by decide +kernel
theorem dX12_ring_82 : decode cX12_ring 82 = .ok (.iload 5, 2) := by decide +kernel
theorem dX12_ring_84 : decode cX12_ring 84 = .ok (.istore_n 2, 1) := by decide +kernel
theorem dX12_ring_85 : decode cX12_ring 85 = .ok (.iload 4, 2) := by decide +kernel
theorem dX12_ring_87 : decode cX12_ring 87 = .ok (.iload 5, 2) := by decide +kernel
theorem dX12_ring_89 : decode cX12_ring 89 = .ok (.isub, 1) := by decide +kernel
theorem dX12_ring_90 : decode cX12_ring 90 = .ok (.istore_n 3, 1) := by decide +kernel
theorem dX12_ring_91 : decode cX12_ring 91 = .ok (.iinc 5 1, 3) := by decide +kernel
theorem dX12_ring_94 : decode cX12_ring 94 = .ok (.goto (-38), 3) := by decide +kernel
theorem dX12_ring_97 : decode cX12_ring 97 = .ok (.aload_n 0, 1) := by decide +kernel
theorem dX12_ring_98 : decode cX12_ring 98 = .ok (.iconst 0, 1) := by decide +kernel
theorem dX12_ring_99 : decode cX12_ring 99 = .ok (.invokevirtual 400, 3) := by decide +kernel
theorem dX12_ring_102 : decode cX12_ring 102 = .ok (.iinc 4 1, 3) := by decide +kernel
theorem dX12_ring_105 : decode cX12_ring 105 = .ok (.goto (-70), 3) := by decide +kernel
theorem dX12_ring_108 : decode cX12_ring 108 = .ok (.aload_n 0, 1) := by decide +kernel
theorem dX12_ring_109 : decode cX12_ring 109 = .ok (.invokevirtual 410, 3) := by decide +kernel
theorem dX12_ring_112 : decode cX12_ring 112 = .ok (.iload_n 1, 1) := by decide +kernel
theorem dX12_ring_113 : decode cX12_ring 113 = .ok (.ifCond .ne 7, 3) := by decide +kernel
theorem dX12_ring_116 : decode cX12_ring 116 = .ok (.iload_n 2, 1) := by decide +kernel
theorem dX12_ring_117 : decode cX12_ring 117 = .ok (.goto 4, 3) := by decide +kernel
theorem dX12_ring_120 : decode cX12_ring 120 = .ok (.iload_n 3, 1) := by decide +kernel
theorem dX12_ring_121 : decode cX12_ring 121 = .ok (.ireturn, 1) := by decide +kernel
theorem dX12_goBest_0 : decode cX12_goBest 0 = .ok (.iload_n 2, 1) := by decide +kernel
theorem dX12_goBest_1 : decode cX12_goBest 1 = .ok (.ifCond .ne 54, 3) := by decide +kernel
theorem dX12_goBest_4 : decode cX12_goBest 4 = .ok (.aload_n 0, 1) := by decide +kernel
theorem dX12_goBest_5 : decode cX12_goBest 5 = .ok (.getfield 55, 3) := by decide +kernel
theorem dX12_goBest_8 : decode cX12_goBest 8 = .ok (.bipush 12, 2) := by decide +kernel
theorem dX12_goBest_10 : decode cX12_goBest 10 = .ok (.iload_n 1, 1) := by decide +kernel
theorem dX12_goBest_11 : decode cX12_goBest 11 = .ok (.iadd, 1) := by decide +kernel
theorem dX12_goBest_12 : decode cX12_goBest 12 = .ok (.iaload, 1) := by decide +kernel
theorem dX12_goBest_13 : decode cX12_goBest 13 = .ok (.aload_n 0, 1) := by decide +kernel
theorem dX12_goBest_14 : decode cX12_goBest 14 = .ok (.getfield 58, 3) := by decide +kernel
theorem dX12_goBest_17 : decode cX12_goBest 17 = .ok (.bipush 12, 2) := by decide +kernel
theorem dX12_goBest_19 : decode cX12_goBest 19 = .ok (.iload_n 1, 1) := by decide +kernel
theorem dX12_goBest_20 : decode cX12_goBest 20 = .ok (.iadd, 1) := by decide +kernel
theorem dX12_goBest_21 : decode cX12_goBest 21 = .ok (.iaload, 1) := by decide +kernel
theorem dX12_goBest_22 : decode cX12_goBest 22 = .ok (.isub, 1) := by decide +kernel
theorem dX12_goBest_23 : decode cX12_goBest 23 = .ok (.istore 4, 2) := by decide +kernel
theorem dX12_goBest_25 : decode cX12_goBest 25 = .ok (.aload_n 0, 1) := by decide +kernel
theorem dX12_goBest_26 : decode cX12_goBest 26 = .ok (.getfield 422, 3) := by decide +kernel
theorem dX12_goBest_29 : decode cX12_goBest 29 = .ok (.iconst (-1), 1) := by decide +kernel
theorem dX12_goBest_30 : decode cX12_goBest 30 = .ok (.if_icmp .eq 13, 3) := by decide +kernel
theorem dX12_goBest_33 : decode cX12_goBest 33 = .ok (.iload 4, 2) := by decide +kernel
theorem dX12_goBest_35 : decode cX12_goBest 35 = .ok (.aload_n 0, 1) := by decide +kernel
theorem dX12_goBest_36 : decode cX12_goBest 36 = .ok (.getfield 425, 3) := by decide +kernel
theorem dX12_goBest_39 : decode cX12_goBest 39 = .ok (.if_icmp .gt 4, 3) := by decide +kernel
theorem dX12_goBest_42 : decode cX12_goBest 42 = .ok (.return_, 1) := by decide +kernel
theorem dX12_goBest_43 : decode cX12_goBest 43 = .ok (.aload_n 0, 1) := by decide +kernel
theorem dX12_goBest_44 : decode cX12_goBest 44 = .ok (.iload_n 3, 1) := by decide +kernel
theorem dX12_goBest_45 : decode cX12_goBest 45 = .ok (.putfield 422, 3) := by decide +kernel
theorem dX12_goBest_48 : decode cX12_goBest 48 = .ok (.aload_n 0, 1) := by decide +kernel
theorem dX12_goBest_49 : decode cX12_goBest 49 = .ok (.iload 4, 2) := by decide +kernel
theorem dX12_goBest_51 : decode cX12_goBest 51 = .ok (.putfield 425, 3) := by decide +kernel
theorem dX12_goBest_54 : decode cX12_goBest 54 = .ok (.return_, 1) := by decide +kernel
theorem dX12_goBest_55 : decode cX12_goBest 55 = .ok (.iload_n 2, 1) := by decide +kernel
theorem dX12_goBest_56 : decode cX12_goBest 56 = .ok (.iconst 1, 1) := by decide +kernel
theorem dX12_goBest_57 : decode cX12_goBest 57 = .ok (.if_icmp .ne 10, 3) := by decide +kernel
theorem dX12_goBest_60 : decode cX12_goBest 60 = .ok (.aload_n 0, 1) := by decide +kernel
theorem dX12_goBest_61 : decode cX12_goBest 61 = .ok (.getfield 98, 3) := by decide +kernel
theorem dX12_goBest_64 : decode cX12_goBest 64 = .ok (.goto 19, 3) := by decide +kernel
theorem dX12_goBest_67 : decode cX12_goBest 67 = .ok (.iload_n 2, 1) := by decide +kernel
theorem dX12_goBest_68 : decode cX12_goBest 68 = .ok (.iconst 2, 1) := by decide +kernel
theorem dX12_goBest_69 : decode cX12_goBest 69 = .ok (.if_icmp .ne 10, 3) := by decide +kernel
theorem dX12_goBest_72 : decode cX12_goBest 72 = .ok (.aload_n 0, 1) := by decide +kernel
theorem dX12_goBest_73 : decode cX12_goBest 73 = .ok (.getfield 101, 3) := by decide +kernel
theorem dX12_goBest_76 : decode cX12_goBest 76 = .ok (.goto 7, 3) := by decide +kernel
theorem dX12_goBest_79 : decode cX12_goBest 79 = .ok (.aload_n 0, 1) := by decide +kernel
theorem dX12_goBest_80 : decode cX12_goBest 80 = .ok (.getfield 104, 3) := by decide +kernel
theorem dX12_goBest_83 : decode cX12_goBest 83 = .ok (.astore 4, 2) := by decide +kernel
theorem dX12_goBest_85 : decode cX12_goBest 85 = .ok (.iconst 0, 1) := by decide +kernel
theorem dX12_goBest_86 : decode cX12_goBest 86 = .ok (.istore 5, 2) := by decide +kernel
theorem dX12_goBest_88 : decode cX12_goBest 88 = .ok (.iload 5, 2) := by decide +kernel
theorem dX12_goBest_90 : decode cX12_goBest 90 = .ok (.bipush 57, 2) := by decide +kernel
theorem dX12_goBest_92 : decode cX12_goBest 92 = .ok (.if_icmp .ge 21, 3) := by decide +kernel
theorem dX12_goBest_95 : decode cX12_goBest 95 = .ok (.aload 4, 2) := by decide +kernel
theorem dX12_goBest_97 : decode cX12_goBest 97 = .ok (.iload 5, 2) := by decide +kernel
theorem dX12_goBest_99 : decode cX12_goBest 99 = .ok (.aload_n 0, 1) := by decide +kernel
theorem dX12_goBest_100 : decode cX12_goBest 100 = .ok (.getfield 55, 3) := by decide +kernel
theorem dX12_goBest_103 : decode cX12_goBest 103 = .ok (.iload 5, 2) := by decide +kernel
theorem dX12_goBest_105 : decode cX12_goBest 105 = .ok (.iaload, 1) := by decide +kernel
theorem dX12_goBest_106 : decode cX12_goBest 106 = .ok (.iastore, 1) := by decide +kernel
theorem dX12_goBest_107 : decode cX12_goBest 107 = .ok (.iinc 5 1, 3) := by decide +kernel
theorem dX12_goBest_110 : decode cX12_goBest 110 = .ok (.goto (-22), 3) := by decide +kernel
theorem dX12_goBest_113 : decode cX12_goBest 113 = .ok (.iconst 0, 1) := by decide +kernel
theorem dX12_goBest_114 : decode cX12_goBest 114 = .ok (.istore 5, 2) := by decide +kernel
theorem dX12_goBest_116 : decode cX12_goBest 116 = .ok (.iload 5, 2) := by decide +kernel
theorem dX12_goBest_118 : decode cX12_goBest 118 = .ok (.aload 4, 2) := by decide +kernel
theorem dX12_goBest_120 : decode cX12_goBest 120 = .ok (.bipush 54, 2) := by decide +kernel
theorem dX12_goBest_122 : decode cX12_goBest 122 = .ok (.iaload, 1) := by decide +kernel
theorem dX12_goBest_123 : decode cX12_goBest 123 = .ok (.if_icmp .gt 65, 3) := by decide +kernel
theorem dX12_goBest_126 : decode cX12_goBest 126 = .ok (.aload_n 0, 1) := by decide +kernel
theorem dX12_goBest_127 : decode cX12_goBest 127 = .ok (.getfield 64, 3) := by decide +kernel
theorem dX12_goBest_130 : decode cX12_goBest 130 = .ok (.iload_n 1, 1) := by decide +kernel
theorem dX12_goBest_131 : decode cX12_goBest 131 = .ok (.iload 5, 2) := by decide +kernel
theorem dX12_goBest_133 : decode cX12_goBest 133 = .ok (.iastore, 1) := by decide +kernel
theorem dX12_goBest_134 : decode cX12_goBest 134 = .ok (.aload_n 0, 1) := by decide +kernel
theorem dX12_goBest_135 : decode cX12_goBest 135 = .ok (.iconst 0, 1) := by decide +kernel
theorem dX12_goBest_136 : decode cX12_goBest 136 = .ok (.invokevirtual 400, 3) := by decide +kernel
theorem dX12_goBest_139 : decode cX12_goBest 139 = .ok (.aload_n 0, 1) := by decide +kernel
theorem dX12_goBest_140 : decode cX12_goBest 140 = .ok (.iload_n 1, 1) := by decide +kernel
theorem dX12_goBest_141 : decode cX12_goBest 141 = .ok (.iload_n 2, 1) := by decide +kernel
theorem dX12_goBest_142 : decode cX12_goBest 142 = .ok (.iconst 1, 1) := by decide +kernel
theorem dX12_goBest_143 : decode cX12_goBest 143 = .ok (.isub, 1) := by decide +kernel
theorem dX12_goBest_144 : decode cX12_goBest 144 = .ok (.bipush 100, 2) := by decide +kernel
theorem dX12_goBest_146 : decode cX12_goBest 146 = .ok (.iload_n 3, 1) := by decide +kernel
theorem dX12_goBest_147 : decode cX12_goBest 147 = .ok (.imul, 1) := by decide +kernel
theorem dX12_goBest_148 : decode cX12_goBest 148 = .ok (.iload 5, 2) := by decide +kernel
theorem dX12_goBest_150 : decode cX12_goBest 150 = .ok (.iadd, 1) := by decide +kernel
theorem dX12_goBest_151 : decode cX12_goBest 151 = .ok (.invokevirtual 428, 3) := by decide +kernel
theorem dX12_goBest_154 : decode cX12_goBest 154 = .ok (.iconst 0, 1) := by decide +kernel
theorem dX12_goBest_155 : decode cX12_goBest 155 = .ok (.istore 6, 2) := by decide +kernel
theorem dX12_goBest_157 : decode cX12_goBest 157 = .ok (.iload 6, 2) := by decide +kernel
theorem dX12_goBest_159 : decode cX12_goBest 159 = .ok (.bipush 57, 2) := by decide +kernel
theorem dX12_goBest_161 : decode cX12_goBest 161 = .ok (.if_icmp .ge 21, 3) := by decide +kernel
theorem dX12_goBest_164 : decode cX12_goBest 164 = .ok (.aload_n 0, 1) := by decide +kernel
theorem dX12_goBest_165 : decode cX12_goBest 165 = .ok (.getfield 55, 3) := by decide +kernel
theorem dX12_goBest_168 : decode cX12_goBest 168 = .ok (.iload 6, 2) := by decide +kernel
theorem dX12_goBest_170 : decode cX12_goBest 170 = .ok (.aload 4, 2) := by decide +kernel
theorem dX12_goBest_172 : decode cX12_goBest 172 = .ok (.iload 6, 2) := by decide +kernel
theorem dX12_goBest_174 : decode cX12_goBest 174 = .ok (.iaload, 1) := by decide +kernel
theorem dX12_goBest_175 : decode cX12_goBest 175 = .ok (.iastore, 1) := by decide +kernel
theorem dX12_goBest_176 : decode cX12_goBest 176 = .ok (.iinc 6 1, 3) := by decide +kernel
theorem dX12_goBest_179 : decode cX12_goBest 179 = .ok (.goto (-22), 3) := by decide +kernel
theorem dX12_goBest_182 : decode cX12_goBest 182 = .ok (.iinc 5 1, 3) := by decide +kernel
theorem dX12_goBest_185 : decode cX12_goBest 185 = .ok (.goto (-69), 3) := by decide +kernel
theorem dX12_goBest_188 : decode cX12_goBest 188 = .ok (.return_, 1) := by decide +kernel
theorem dX12_best_0 : decode cX12_best 0 = .ok (.aload_n 0, 1) := by decide +kernel
theorem dX12_best_1 : decode cX12_best 1 = .ok (.iconst 0, 1) := by decide +kernel
theorem dX12_best_2 : decode cX12_best 2 = .ok (.putfield 131, 3) := by decide +kernel
theorem dX12_best_5 : decode cX12_best 5 = .ok (.aload_n 0, 1) := by decide +kernel
theorem dX12_best_6 : decode cX12_best 6 = .ok (.iload_n 1, 1) := by decide +kernel
theorem dX12_best_7 : decode cX12_best 7 = .ok (.invokevirtual 323, 3) := by decide +kernel
theorem dX12_best_10 : decode cX12_best 10 = .ok (.ifCond .eq 25, 3) := by decide +kernel
theorem dX12_best_13 : decode cX12_best 13 = .ok (.iload_n 2, 1) := by decide +kernel
theorem dX12_best_14 : decode cX12_best 14 = .ok (.i2l, 1) := by decide +kernel
theorem dX12_best_15 : decode cX12_best 15 = .ok (.lconst 1, 1) := by decide +kernel
theorem dX12_best_16 : decode cX12_best 16 = .ok (.ldc2_w 328, 3) := by decide +kernel
theorem dX12_best_19 : decode cX12_best 19 = .ok (.invokestatic 253, 3) := by decide +kernel
theorem dX12_best_22 : decode cX12_best 22 = .ok (.ifCond .eq 13, 3) := by decide +kernel
theorem dX12_best_25 : decode cX12_best 25 = .ok (.iload_n 3, 1) := by decide +kernel
theorem dX12_best_26 : decode cX12_best 26 = .ok (.i2l, 1) := by decide +kernel
theorem dX12_best_27 : decode cX12_best 27 = .ok (.lconst 0, 1) := by decide +kernel
theorem dX12_best_28 : decode cX12_best 28 = .ok (.lconst 1, 1) := by decide +kernel
theorem dX12_best_29 : decode cX12_best 29 = .ok (.invokestatic 253, 3) := by decide +kernel
theorem dX12_best_32 : decode cX12_best 32 = .ok (.ifCond .ne 7, 3) := by decide +kernel
theorem dX12_best_35 : decode cX12_best 35 = .ok (.ldc_w 432, 3) := by decide +kernel
theorem dX12_best_38 : decode cX12_best 38 = .ok (.ireturn, 1) := by decide +kernel
theorem dX12_best_39 : decode cX12_best 39 = .ok (.aload_n 0, 1) := by decide +kernel
theorem dX12_best_40 : decode cX12_best 40 = .ok (.invokevirtual 404, 3) := by decide +kernel
theorem dX12_best_43 : decode cX12_best 43 = .ok (.aload_n 0, 1) := by decide +kernel
theorem dX12_best_44 : decode cX12_best 44 = .ok (.dup, 1) := by decide +kernel
theorem dX12_best_45 : decode cX12_best 45 = .ok (.getfield 342, 3) := by decide +kernel
theorem dX12_best_48 : decode cX12_best 48 = .ok (.iconst 1, 1) := by decide +kernel
theorem dX12_best_49 : decode cX12_best 49 = .ok (.iload_n 1, 1) := by decide +kernel
theorem dX12_best_50 : decode cX12_best 50 = .ok (.ishl, 1) := by decide +kernel
theorem dX12_best_51 : decode cX12_best 51 = .ok (.iconst (-1), 1) := by decide +kernel
theorem dX12_best_52 : decode cX12_best 52 = .ok (.ixor, 1) := by decide +kernel
theorem dX12_best_53 : decode cX12_best 53 = .ok (.iand, 1) := by decide +kernel
theorem dX12_best_54 : decode cX12_best 54 = .ok (.putfield 342, 3) := by decide +kernel
theorem dX12_best_57 : decode cX12_best 57 = .ok (.aload_n 0, 1) := by decide +kernel
theorem dX12_best_58 : decode cX12_best 58 = .ok (.iconst (-1), 1) := by decide +kernel
theorem dX12_best_59 : decode cX12_best 59 = .ok (.putfield 422, 3) := by decide +kernel
theorem dX12_best_62 : decode cX12_best 62 = .ok (.aload_n 0, 1) := by decide +kernel
theorem dX12_best_63 : decode cX12_best 63 = .ok (.iload_n 1, 1) := by decide +kernel
theorem dX12_best_64 : decode cX12_best 64 = .ok (.iload_n 2, 1) := by decide +kernel
theorem dX12_best_65 : decode cX12_best 65 = .ok (.iconst 0, 1) := by decide +kernel
theorem dX12_best_66 : decode cX12_best 66 = .ok (.invokevirtual 428, 3) := by decide +kernel
theorem dX12_best_69 : decode cX12_best 69 = .ok (.aload_n 0, 1) := by decide +kernel
theorem dX12_best_70 : decode cX12_best 70 = .ok (.invokevirtual 410, 3) := by decide +kernel
theorem dX12_best_73 : decode cX12_best 73 = .ok (.aload_n 0, 1) := by decide +kernel
theorem dX12_best_74 : decode cX12_best 74 = .ok (.invokevirtual 393, 3) := by decide +kernel
theorem dX12_best_77 : decode cX12_best 77 = .ok (.iload_n 3, 1) := by decide +kernel
theorem dX12_best_78 : decode cX12_best 78 = .ok (.ifCond .ne 10, 3) := by decide +kernel
theorem dX12_best_81 : decode cX12_best 81 = .ok (.aload_n 0, 1) := by decide +kernel
theorem dX12_best_82 : decode cX12_best 82 = .ok (.getfield 422, 3) := by decide +kernel
theorem dX12_best_85 : decode cX12_best 85 = .ok (.goto 7, 3) := by decide +kernel
theorem dX12_best_88 : decode cX12_best 88 = .ok (.aload_n 0, 1) := by decide +kernel
theorem dX12_best_89 : decode cX12_best 89 = .ok (.getfield 425, 3) := by decide +kernel
theorem dX12_best_92 : decode cX12_best 92 = .ok (.ireturn, 1) := by decide +kernel
theorem dX12_takenBy_0 : decode cX12_takenBy 0 = .ok (.aload_n 0, 1) := by decide +kernel
theorem dX12_takenBy_1 : decode cX12_takenBy 1 = .ok (.iconst 0, 1) := by decide +kernel
theorem dX12_takenBy_2 : decode cX12_takenBy 2 = .ok (.invokevirtual 400, 3) := by decide +kernel
theorem dX12_takenBy_5 : decode cX12_takenBy 5 = .ok (.aload_n 0, 1) := by decide +kernel
theorem dX12_takenBy_6 : decode cX12_takenBy 6 = .ok (.getfield 70, 3) := by decide +kernel
theorem dX12_takenBy_9 : decode cX12_takenBy 9 = .ok (.iload_n 1, 1) := by decide +kernel
theorem dX12_takenBy_10 : decode cX12_takenBy 10 = .ok (.iaload, 1) := by decide +kernel
theorem dX12_takenBy_11 : decode cX12_takenBy 11 = .ok (.istore_n 2, 1) := by decide +kernel
theorem dX12_takenBy_12 : decode cX12_takenBy 12 = .ok (.aload_n 0, 1) := by decide +kernel
theorem dX12_takenBy_13 : decode cX12_takenBy 13 = .ok (.invokevirtual 410, 3) := by decide +kernel
theorem dX12_takenBy_16 : decode cX12_takenBy 16 = .ok (.iload_n 2, 1) := by decide +kernel
theorem dX12_takenBy_17 : decode cX12_takenBy 17 = .ok (.ireturn, 1) := by decide +kernel
theorem dX12_isRest_0 : decode cX12_isRest 0 = .ok (.iconst 0, 1) := by decide +kernel
theorem dX12_isRest_1 : decode cX12_isRest 1 = .ok (.istore_n 1, 1) := by decide +kernel
theorem dX12_isRest_2 : decode cX12_isRest 2 = .ok (.iload_n 1, 1) := by decide +kernel
theorem dX12_isRest_3 : decode cX12_isRest 3 = .ok (.aload_n 0, 1) := by decide +kernel
theorem dX12_isRest_4 : decode cX12_isRest 4 = .ok (.getfield 305, 3) := by decide +kernel
theorem dX12_isRest_7 : decode cX12_isRest 7 = .ok (.if_icmp .ge 103, 3) := by decide +kernel
theorem dX12_isRest_10 : decode cX12_isRest 10 = .ok (.aload_n 0, 1) := by decide +kernel
theorem dX12_isRest_11 : decode cX12_isRest 11 = .ok (.getfield 342, 3) := by decide +kernel
theorem dX12_isRest_14 : decode cX12_isRest 14 = .ok (.iload_n 1, 1) := by decide +kernel
theorem dX12_isRest_15 : decode cX12_isRest 15 = .ok (.invokestatic 280, 3) := by decide +kernel
theorem dX12_isRest_18 : decode cX12_isRest 18 = .ok (.ifCond .eq 6, 3) := by decide +kernel
theorem dX12_isRest_21 : decode cX12_isRest 21 = .ok (.goto 83, 3) := by decide +kernel
theorem dX12_isRest_24 : decode cX12_isRest 24 = .ok (.aload_n 0, 1) := by decide +kernel
theorem dX12_isRest_25 : decode cX12_isRest 25 = .ok (.getfield 64, 3) := by decide +kernel
theorem dX12_isRest_28 : decode cX12_isRest 28 = .ok (.iload_n 1, 1) := by decide +kernel
theorem dX12_isRest_29 : decode cX12_isRest 29 = .ok (.iaload, 1) := by decide +kernel
theorem dX12_isRest_30 : decode cX12_isRest 30 = .ok (.istore_n 2, 1) := by decide +kernel
theorem dX12_isRest_31 : decode cX12_isRest 31 = .ok (.aload_n 0, 1) := by decide +kernel
theorem dX12_isRest_32 : decode cX12_isRest 32 = .ok (.iload_n 1, 1) := by decide +kernel
theorem dX12_isRest_33 : decode cX12_isRest 33 = .ok (.invokevirtual 433, 3) := by decide +kernel
theorem dX12_isRest_36 : decode cX12_isRest 36 = .ok (.istore_n 3, 1) := by decide +kernel
theorem dX12_isRest_37 : decode cX12_isRest 37 = .ok (.iconst 0, 1) := by decide +kernel
theorem dX12_isRest_38 : decode cX12_isRest 38 = .ok (.istore 4, 2) := by decide +kernel
theorem dX12_isRest_40 : decode cX12_isRest 40 = .ok (.iconst 0, 1) := by decide +kernel
theorem dX12_isRest_41 : decode cX12_isRest 41 = .ok (.istore 5, 2) := by decide +kernel
theorem dX12_isRest_43 : decode cX12_isRest 43 = .ok (.iload 5, 2) := by decide +kernel
theorem dX12_isRest_45 : decode cX12_isRest 45 = .ok (.aload_n 0, 1) := by decide +kernel
theorem dX12_isRest_46 : decode cX12_isRest 46 = .ok (.getfield 58, 3) := by decide +kernel
theorem dX12_isRest_49 : decode cX12_isRest 49 = .ok (.bipush 54, 2) := by decide +kernel
theorem dX12_isRest_51 : decode cX12_isRest 51 = .ok (.iaload, 1) := by decide +kernel
theorem dX12_isRest_52 : decode cX12_isRest 52 = .ok (.if_icmp .gt 38, 3) := by decide +kernel
theorem dX12_isRest_55 : decode cX12_isRest 55 = .ok (.iload 4, 2) := by decide +kernel
theorem dX12_isRest_57 : decode cX12_isRest 57 = .ok (.ifCond .ne 33, 3) := by decide +kernel
theorem dX12_isRest_60 : decode cX12_isRest 60 = .ok (.aload_n 0, 1) := by decide +kernel
theorem dX12_isRest_61 : decode cX12_isRest 61 = .ok (.getfield 64, 3) := by decide +kernel
theorem dX12_isRest_64 : decode cX12_isRest 64 = .ok (.iload_n 1, 1) := by decide +kernel
theorem dX12_isRest_65 : decode cX12_isRest 65 = .ok (.iload 5, 2) := by decide +kernel
theorem dX12_isRest_67 : decode cX12_isRest 67 = .ok (.iastore, 1) := by decide +kernel
theorem dX12_isRest_68 : decode cX12_isRest 68 = .ok (.aload_n 0, 1) := by decide +kernel
theorem dX12_isRest_69 : decode cX12_isRest 69 = .ok (.iload_n 1, 1) := by decide +kernel
theorem dX12_isRest_70 : decode cX12_isRest 70 = .ok (.invokevirtual 433, 3) := by decide +kernel
theorem dX12_isRest_73 : decode cX12_isRest 73 = .ok (.iload_n 3, 1) := by decide +kernel
theorem dX12_isRest_74 : decode cX12_isRest 74 = .ok (.if_icmp .le 7, 3) := by decide +kernel
theorem dX12_isRest_77 : decode cX12_isRest 77 = .ok (.iconst 1, 1) := by decide +kernel
theorem dX12_isRest_78 : decode cX12_isRest 78 = .ok (.goto 4, 3) := by decide +kernel
theorem dX12_isRest_81 : decode cX12_isRest 81 = .ok (.iconst 0, 1) := by decide +kernel
theorem dX12_isRest_82 : decode cX12_isRest 82 = .ok (.istore 4, 2) := by decide +kernel
theorem dX12_isRest_84 : decode cX12_isRest 84 = .ok (.iinc 5 1, 3) := by decide +kernel
theorem dX12_isRest_87 : decode cX12_isRest 87 = .ok (.goto (-44), 3) := by decide +kernel
theorem dX12_isRest_90 : decode cX12_isRest 90 = .ok (.aload_n 0, 1) := by decide +kernel
theorem dX12_isRest_91 : decode cX12_isRest 91 = .ok (.getfield 64, 3) := by decide +kernel
theorem dX12_isRest_94 : decode cX12_isRest 94 = .ok (.iload_n 1, 1) := by decide +kernel
theorem dX12_isRest_95 : decode cX12_isRest 95 = .ok (.iload_n 2, 1) := by decide +kernel
theorem dX12_isRest_96 : decode cX12_isRest 96 = .ok (.iastore, 1) := by decide +kernel
theorem dX12_isRest_97 : decode cX12_isRest 97 = .ok (.iload 4, 2) := by decide +kernel
theorem dX12_isRest_99 : decode cX12_isRest 99 = .ok (.ifCond .eq 5, 3) := by decide +kernel
theorem dX12_isRest_102 : decode cX12_isRest 102 = .ok (.iconst 0, 1) := by decide +kernel
theorem dX12_isRest_103 : decode cX12_isRest 103 = .ok (.ireturn, 1) := by decide +kernel
theorem dX12_isRest_104 : decode cX12_isRest 104 = .ok (.iinc 1 1, 3) := by decide +kernel
theorem dX12_isRest_107 : decode cX12_isRest 107 = .ok (.goto (-105), 3) := by decide +kernel
theorem dX12_isRest_110 : decode cX12_isRest 110 = .ok (.iconst 1, 1) := by decide +kernel
theorem dX12_isRest_111 : decode cX12_isRest 111 = .ok (.ireturn, 1) := by decide +kernel
theorem dX12_goRests_0 : decode cX12_goRests 0 = .ok (.iload_n 1, 1) := by decide +kernel
theorem dX12_goRests_1 : decode cX12_goRests 1 = .ok (.aload_n 0, 1) := by decide +kernel
theorem dX12_goRests_2 : decode cX12_goRests 2 = .ok (.getfield 305, 3) := by decide +kernel
theorem dX12_goRests_5 : decode cX12_goRests 5 = .ok (.if_icmp .ne 38, 3) := by decide +kernel
theorem dX12_goRests_8 : decode cX12_goRests 8 = .ok (.aload_n 0, 1) := by decide +kernel
theorem dX12_goRests_9 : decode cX12_goRests 9 = .ok (.invokevirtual 436, 3) := by decide +kernel
theorem dX12_goRests_12 : decode cX12_goRests 12 = .ok (.ifCond .ne 4, 3) := by decide +kernel
theorem dX12_goRests_15 : decode cX12_goRests 15 = .ok (.return_, 1) := by decide +kernel
theorem dX12_goRests_16 : decode cX12_goRests 16 = .ok (.aload_n 0, 1) := by decide +kernel
theorem dX12_goRests_17 : decode cX12_goRests 17 = .ok (.getfield 439, 3) := by decide +kernel
theorem dX12_goRests_20 : decode cX12_goRests 20 = .ok (.aload_n 0, 1) := by decide +kernel
theorem dX12_goRests_21 : decode cX12_goRests 21 = .ok (.getfield 442, 3) := by decide +kernel
theorem dX12_goRests_24 : decode cX12_goRests 24 = .ok (.if_icmp .ne 8, 3) := by decide +kernel
theorem dX12_goRests_27 : decode cX12_goRests 27 = .ok (.aload_n 0, 1) := by decide +kernel
theorem dX12_goRests_28 : decode cX12_goRests 28 = .ok (.iload_n 2, 1) := by decide +kernel
theorem dX12_goRests_29 : decode cX12_goRests 29 = .ok (.putfield 445, 3) := by decide +kernel
theorem dX12_goRests_32 : decode cX12_goRests 32 = .ok (.aload_n 0, 1) := by decide +kernel
theorem dX12_goRests_33 : decode cX12_goRests 33 = .ok (.dup, 1) := by decide +kernel
theorem dX12_goRests_34 : decode cX12_goRests 34 = .ok (.getfield 439, 3) := by decide +kernel
theorem dX12_goRests_37 : decode cX12_goRests 37 = .ok (.iconst 1, 1) := by decide +kernel
theorem dX12_goRests_38 : decode cX12_goRests 38 = .ok (.iadd, 1) := by decide +kernel
theorem dX12_goRests_39 : decode cX12_goRests 39 = .ok (.putfield 439, 3) := by decide +kernel
theorem dX12_goRests_42 : decode cX12_goRests 42 = .ok (.return_, 1) := by decide +kernel
theorem dX12_goRests_43 : decode cX12_goRests 43 = .ok (.aload_n 0, 1) := by decide +kernel
theorem dX12_goRests_44 : decode cX12_goRests 44 = .ok (.getfield 342, 3) := by decide +kernel
theorem dX12_goRests_47 : decode cX12_goRests 47 = .ok (.iload_n 1, 1) := by decide +kernel
theorem dX12_goRests_48 : decode cX12_goRests 48 = .ok (.invokestatic 280, 3) := by decide +kernel
theorem dX12_goRests_51 : decode cX12_goRests 51 = .ok (.ifCond .eq 13, 3) := by decide +kernel
theorem dX12_goRests_54 : decode cX12_goRests 54 = .ok (.aload_n 0, 1) := by decide +kernel
theorem dX12_goRests_55 : decode cX12_goRests 55 = .ok (.getfield 58, 3) := by decide +kernel
theorem dX12_goRests_58 : decode cX12_goRests 58 = .ok (.bipush 54, 2) := by decide +kernel
theorem dX12_goRests_60 : decode cX12_goRests 60 = .ok (.iaload, 1) := by decide +kernel
theorem dX12_goRests_61 : decode cX12_goRests 61 = .ok (.goto 4, 3) := by decide +kernel
theorem dX12_goRests_64 : decode cX12_goRests 64 = .ok (.iconst 0, 1) := by decide +kernel
theorem dX12_goRests_65 : decode cX12_goRests 65 = .ok (.istore_n 3, 1) := by decide +kernel
theorem dX12_goRests_66 : decode cX12_goRests 66 = .ok (.iload_n 3, 1) := by decide +kernel
theorem dX12_goRests_67 : decode cX12_goRests 67 = .ok (.aload_n 0, 1) := by decide +kernel
theorem dX12_goRests_68 : decode cX12_goRests 68 = .ok (.getfield 58, 3) := by decide +kernel
theorem dX12_goRests_71 : decode cX12_goRests 71 = .ok (.bipush 54, 2) := by decide +kernel
theorem dX12_goRests_73 : decode cX12_goRests 73 = .ok (.iaload, 1) := by decide +kernel
theorem dX12_goRests_74 : decode cX12_goRests 74 = .ok (.if_icmp .gt 29, 3) := by decide +kernel
theorem dX12_goRests_77 : decode cX12_goRests 77 = .ok (.aload_n 0, 1) := by decide +kernel
theorem dX12_goRests_78 : decode cX12_goRests 78 = .ok (.getfield 64, 3) := by decide +kernel
theorem dX12_goRests_81 : decode cX12_goRests 81 = .ok (.iload_n 1, 1) := by decide +kernel
theorem dX12_goRests_82 : decode cX12_goRests 82 = .ok (.iload_n 3, 1) := by decide +kernel
theorem dX12_goRests_83 : decode cX12_goRests 83 = .ok (.iastore, 1) := by decide +kernel
theorem dX12_goRests_84 : decode cX12_goRests 84 = .ok (.aload_n 0, 1) := by decide +kernel
theorem dX12_goRests_85 : decode cX12_goRests 85 = .ok (.iload_n 1, 1) := by decide +kernel
theorem dX12_goRests_86 : decode cX12_goRests 86 = .ok (.iconst 1, 1) := by decide +kernel
theorem dX12_goRests_87 : decode cX12_goRests 87 = .ok (.iadd, 1) := by decide +kernel
theorem dX12_goRests_88 : decode cX12_goRests 88 = .ok (.bipush 100, 2) := by decide +kernel
theorem dX12_goRests_90 : decode cX12_goRests 90 = .ok (.iload_n 2, 1) := by decide +kernel
theorem dX12_goRests_91 : decode cX12_goRests 91 = .ok (.imul, 1) := by decide +kernel
theorem dX12_goRests_92 : decode cX12_goRests 92 = .ok (.iload_n 3, 1) := by decide +kernel
theorem dX12_goRests_93 : decode cX12_goRests 93 = .ok (.iadd, 1) := by decide +kernel
theorem dX12_goRests_94 : decode cX12_goRests 94 = .ok (.invokevirtual 448, 3) := by decide +kernel
theorem dX12_goRests_97 : decode cX12_goRests 97 = .ok (.iinc 3 1, 3) := by decide +kernel
theorem dX12_goRests_100 : decode cX12_goRests 100 = .ok (.goto (-34), 3) := by decide +kernel
theorem dX12_goRests_103 : decode cX12_goRests 103 = .ok (.return_, 1) := by decide +kernel
theorem dX12_rest_0 : decode cX12_rest 0 = .ok (.aload_n 0, 1) := by decide +kernel
theorem dX12_rest_1 : decode cX12_rest 1 = .ok (.iconst 0, 1) := by decide +kernel
theorem dX12_rest_2 : decode cX12_rest 2 = .ok (.putfield 131, 3) := by decide +kernel
theorem dX12_rest_5 : decode cX12_rest 5 = .ok (.aload_n 0, 1) := by decide +kernel
theorem dX12_rest_6 : decode cX12_rest 6 = .ok (.getfield 305, 3) := by decide +kernel
theorem dX12_rest_9 : decode cX12_rest 9 = .ok (.ifCond .eq 11, 3) := by decide +kernel
theorem dX12_rest_12 : decode cX12_rest 12 = .ok (.aload_n 0, 1) := by decide +kernel
theorem dX12_rest_13 : decode cX12_rest 13 = .ok (.getfield 305, 3) := by decide +kernel
theorem dX12_rest_16 : decode cX12_rest 16 = .ok (.iconst 3, 1) := by decide +kernel
theorem dX12_rest_17 : decode cX12_rest 17 = .ok (.if_icmp .le 7, 3) := by decide +kernel
theorem dX12_rest_20 : decode cX12_rest 20 = .ok (.ldc_w 432, 3) := by decide +kernel
theorem dX12_rest_23 : decode cX12_rest 23 = .ok (.ireturn, 1) := by decide +kernel
theorem dX12_rest_24 : decode cX12_rest 24 = .ok (.iload_n 1, 1) := by decide +kernel
theorem dX12_rest_25 : decode cX12_rest 25 = .ok (.iconst (-1), 1) := by decide +kernel
theorem dX12_rest_26 : decode cX12_rest 26 = .ok (.if_icmp .ge 5, 3) := by decide +kernel
theorem dX12_rest_29 : decode cX12_rest 29 = .ok (.iconst (-1), 1) := by decide +kernel
theorem dX12_rest_30 : decode cX12_rest 30 = .ok (.ireturn, 1) := by decide +kernel
theorem dX12_rest_31 : decode cX12_rest 31 = .ok (.aload_n 0, 1) := by decide +kernel
theorem dX12_rest_32 : decode cX12_rest 32 = .ok (.invokevirtual 404, 3) := by decide +kernel
theorem dX12_rest_35 : decode cX12_rest 35 = .ok (.aload_n 0, 1) := by decide +kernel
theorem dX12_rest_36 : decode cX12_rest 36 = .ok (.iconst 0, 1) := by decide +kernel
theorem dX12_rest_37 : decode cX12_rest 37 = .ok (.putfield 439, 3) := by decide +kernel
theorem dX12_rest_40 : decode cX12_rest 40 = .ok (.aload_n 0, 1) := by decide +kernel
theorem dX12_rest_41 : decode cX12_rest 41 = .ok (.iload_n 1, 1) := by decide +kernel
theorem dX12_rest_42 : decode cX12_rest 42 = .ok (.putfield 442, 3) := by decide +kernel
theorem dX12_rest_45 : decode cX12_rest 45 = .ok (.aload_n 0, 1) := by decide +kernel
theorem dX12_rest_46 : decode cX12_rest 46 = .ok (.iconst (-1), 1) := by decide +kernel
theorem dX12_rest_47 : decode cX12_rest 47 = .ok (.putfield 445, 3) := by decide +kernel
theorem dX12_rest_50 : decode cX12_rest 50 = .ok (.aload_n 0, 1) := by decide +kernel
theorem dX12_rest_51 : decode cX12_rest 51 = .ok (.iconst 0, 1) := by decide +kernel
theorem dX12_rest_52 : decode cX12_rest 52 = .ok (.iconst 0, 1) := by decide +kernel
theorem dX12_rest_53 : decode cX12_rest 53 = .ok (.invokevirtual 448, 3) := by decide +kernel
theorem dX12_rest_56 : decode cX12_rest 56 = .ok (.aload_n 0, 1) := by decide +kernel
theorem dX12_rest_57 : decode cX12_rest 57 = .ok (.invokevirtual 410, 3) := by decide +kernel
theorem dX12_rest_60 : decode cX12_rest 60 = .ok (.aload_n 0, 1) := by decide +kernel
theorem dX12_rest_61 : decode cX12_rest 61 = .ok (.invokevirtual 393, 3) := by decide +kernel
theorem dX12_rest_64 : decode cX12_rest 64 = .ok (.iload_n 1, 1) := by decide +kernel
theorem dX12_rest_65 : decode cX12_rest 65 = .ok (.iconst (-1), 1) := by decide +kernel
theorem dX12_rest_66 : decode cX12_rest 66 = .ok (.if_icmp .ne 10, 3) := by decide +kernel
theorem dX12_rest_69 : decode cX12_rest 69 = .ok (.aload_n 0, 1) := by decide +kernel
theorem dX12_rest_70 : decode cX12_rest 70 = .ok (.getfield 439, 3) := by decide +kernel
theorem dX12_rest_73 : decode cX12_rest 73 = .ok (.goto 7, 3) := by decide +kernel
theorem dX12_rest_76 : decode cX12_rest 76 = .ok (.aload_n 0, 1) := by decide +kernel
theorem dX12_rest_77 : decode cX12_rest 77 = .ok (.getfield 445, 3) := by decide +kernel
theorem dX12_rest_80 : decode cX12_rest 80 = .ok (.ireturn, 1) := by decide +kernel
theorem dX12_gainsBy_0 : decode cX12_gainsBy 0 = .ok (.aload_n 0, 1) := by decide +kernel
theorem dX12_gainsBy_1 : decode cX12_gainsBy 1 = .ok (.invokevirtual 410, 3) := by decide +kernel
theorem dX12_gainsBy_4 : decode cX12_gainsBy 4 = .ok (.aload_n 0, 1) := by decide +kernel
theorem dX12_gainsBy_5 : decode cX12_gainsBy 5 = .ok (.iload_n 1, 1) := by decide +kernel
theorem dX12_gainsBy_6 : decode cX12_gainsBy 6 = .ok (.putfield 342, 3) := by decide +kernel
theorem dX12_gainsBy_9 : decode cX12_gainsBy 9 = .ok (.aload_n 0, 1) := by decide +kernel
theorem dX12_gainsBy_10 : decode cX12_gainsBy 10 = .ok (.iload_n 2, 1) := by decide +kernel
theorem dX12_gainsBy_11 : decode cX12_gainsBy 11 = .ok (.invokevirtual 407, 3) := by decide +kernel
theorem dX12_gainsBy_14 : decode cX12_gainsBy 14 = .ok (.iconst 0, 1) := by decide +kernel
theorem dX12_gainsBy_15 : decode cX12_gainsBy 15 = .ok (.istore 5, 2) := by decide +kernel
theorem dX12_gainsBy_17 : decode cX12_gainsBy 17 = .ok (.iconst 0, 1) := by decide +kernel
theorem dX12_gainsBy_18 : decode cX12_gainsBy 18 = .ok (.istore 6, 2) := by decide +kernel
theorem dX12_gainsBy_20 : decode cX12_gainsBy 20 = .ok (.iload 6, 2) := by decide +kernel
theorem dX12_gainsBy_22 : decode cX12_gainsBy 22 = .ok (.aload_n 0, 1) := by decide +kernel
theorem dX12_gainsBy_23 : decode cX12_gainsBy 23 = .ok (.getfield 305, 3) := by decide +kernel
theorem dX12_gainsBy_26 : decode cX12_gainsBy 26 = .ok (.if_icmp .ge 44, 3) := by decide +kernel
theorem dX12_gainsBy_29 : decode cX12_gainsBy 29 = .ok (.iload 5, 2) := by decide +kernel
theorem dX12_gainsBy_31 : decode cX12_gainsBy 31 = .ok (.iload 6, 2) := by decide +kernel
theorem dX12_gainsBy_33 : decode cX12_gainsBy 33 = .ok (.iload_n 3, 1) := by decide +kernel
theorem dX12_gainsBy_34 : decode cX12_gainsBy 34 = .ok (.if_icmp .ne 7, 3) := by decide +kernel
theorem dX12_gainsBy_37 : decode cX12_gainsBy 37 = .ok (.iconst 1, 1) := by decide +kernel
theorem dX12_gainsBy_38 : decode cX12_gainsBy 38 = .ok (.goto 4, 3) := by decide +kernel
theorem dX12_gainsBy_41 : decode cX12_gainsBy 41 = .ok (.iconst 0, 1) := by decide +kernel
theorem dX12_gainsBy_42 : decode cX12_gainsBy 42 = .ok (.iload 4, 2) := by decide +kernel
theorem dX12_gainsBy_44 : decode cX12_gainsBy 44 = .ok (.if_icmp .eq 16, 3) := by decide +kernel
theorem dX12_gainsBy_47 : decode cX12_gainsBy 47 = .ok (.aload_n 0, 1) := by decide +kernel
theorem dX12_gainsBy_48 : decode cX12_gainsBy 48 = .ok (.getfield 55, 3) := by decide +kernel
theorem dX12_gainsBy_51 : decode cX12_gainsBy 51 = .ok (.bipush 12, 2) := by decide +kernel
theorem dX12_gainsBy_53 : decode cX12_gainsBy 53 = .ok (.iload 6, 2) := by decide +kernel
theorem dX12_gainsBy_55 : decode cX12_gainsBy 55 = .ok (.iadd, 1) := by decide +kernel
theorem dX12_gainsBy_56 : decode cX12_gainsBy 56 = .ok (.iaload, 1) := by decide +kernel
theorem dX12_gainsBy_57 : decode cX12_gainsBy 57 = .ok (.goto 4, 3) := by decide +kernel
theorem dX12_gainsBy_60 : decode cX12_gainsBy 60 = .ok (.iconst 0, 1) := by decide +kernel
theorem dX12_gainsBy_61 : decode cX12_gainsBy 61 = .ok (.iadd, 1) := by decide +kernel
theorem dX12_gainsBy_62 : decode cX12_gainsBy 62 = .ok (.istore 5, 2) := by decide +kernel
theorem dX12_gainsBy_64 : decode cX12_gainsBy 64 = .ok (.iinc 6 1, 3) := by decide +kernel
theorem dX12_gainsBy_67 : decode cX12_gainsBy 67 = .ok (.goto (-47), 3) := by decide +kernel
theorem dX12_gainsBy_70 : decode cX12_gainsBy 70 = .ok (.aload_n 0, 1) := by decide +kernel
theorem dX12_gainsBy_71 : decode cX12_gainsBy 71 = .ok (.invokevirtual 410, 3) := by decide +kernel
theorem dX12_gainsBy_74 : decode cX12_gainsBy 74 = .ok (.iload 5, 2) := by decide +kernel
theorem dX12_gainsBy_76 : decode cX12_gainsBy 76 = .ok (.ireturn, 1) := by decide +kernel
theorem dX12_fool_0 : decode cX12_fool 0 = .ok (.aload_n 0, 1) := by decide +kernel
theorem dX12_fool_1 : decode cX12_fool 1 = .ok (.iconst 0, 1) := by decide +kernel
theorem dX12_fool_2 : decode cX12_fool 2 = .ok (.putfield 131, 3) := by decide +kernel
theorem dX12_fool_5 : decode cX12_fool 5 = .ok (.aload_n 0, 1) := by decide +kernel
theorem dX12_fool_6 : decode cX12_fool 6 = .ok (.iload_n 1, 1) := by decide +kernel
theorem dX12_fool_7 : decode cX12_fool 7 = .ok (.invokevirtual 323, 3) := by decide +kernel
theorem dX12_fool_10 : decode cX12_fool 10 = .ok (.ifCond .eq 20, 3) := by decide +kernel
theorem dX12_fool_13 : decode cX12_fool 13 = .ok (.iload_n 2, 1) := by decide +kernel
theorem dX12_fool_14 : decode cX12_fool 14 = .ok (.invokestatic 387, 3) := by decide +kernel
theorem dX12_fool_17 : decode cX12_fool 17 = .ok (.ifCond .eq 13, 3) := by decide +kernel
theorem dX12_fool_20 : decode cX12_fool 20 = .ok (.iload_n 3, 1) := by decide +kernel
theorem dX12_fool_21 : decode cX12_fool 21 = .ok (.i2l, 1) := by decide +kernel
theorem dX12_fool_22 : decode cX12_fool 22 = .ok (.lconst 0, 1) := by decide +kernel
theorem dX12_fool_23 : decode cX12_fool 23 = .ok (.lconst 1, 1) := by decide +kernel
theorem dX12_fool_24 : decode cX12_fool 24 = .ok (.invokestatic 253, 3) := by decide +kernel
theorem dX12_fool_27 : decode cX12_fool 27 = .ok (.ifCond .ne 7, 3) := by decide +kernel
theorem dX12_fool_30 : decode cX12_fool 30 = .ok (.ldc_w 432, 3) := by decide +kernel
theorem dX12_fool_33 : decode cX12_fool 33 = .ok (.ireturn, 1) := by decide +kernel
theorem dX12_fool_34 : decode cX12_fool 34 = .ok (.aload_n 0, 1) := by decide +kernel
theorem dX12_fool_35 : decode cX12_fool 35 = .ok (.invokevirtual 404, 3) := by decide +kernel
theorem dX12_fool_38 : decode cX12_fool 38 = .ok (.aload_n 0, 1) := by decide +kernel
theorem dX12_fool_39 : decode cX12_fool 39 = .ok (.aload_n 0, 1) := by decide +kernel
theorem dX12_fool_40 : decode cX12_fool 40 = .ok (.getfield 311, 3) := by decide +kernel
theorem dX12_fool_43 : decode cX12_fool 43 = .ok (.iconst 1, 1) := by decide +kernel
theorem dX12_fool_44 : decode cX12_fool 44 = .ok (.iload_n 1, 1) := by decide +kernel
theorem dX12_fool_45 : decode cX12_fool 45 = .ok (.ishl, 1) := by decide +kernel
theorem dX12_fool_46 : decode cX12_fool 46 = .ok (.ior, 1) := by decide +kernel
theorem dX12_fool_47 : decode cX12_fool 47 = .ok (.iload_n 2, 1) := by decide +kernel
theorem dX12_fool_48 : decode cX12_fool 48 = .ok (.iload_n 1, 1) := by decide +kernel
theorem dX12_fool_49 : decode cX12_fool 49 = .ok (.iload_n 3, 1) := by decide +kernel
theorem dX12_fool_50 : decode cX12_fool 50 = .ok (.iconst 1, 1) := by decide +kernel
theorem dX12_fool_51 : decode cX12_fool 51 = .ok (.if_icmp .ne 7, 3) := by decide +kernel
theorem dX12_fool_54 : decode cX12_fool 54 = .ok (.iconst 1, 1) := by decide +kernel
theorem dX12_fool_55 : decode cX12_fool 55 = .ok (.goto 4, 3) := by decide +kernel
theorem dX12_fool_58 : decode cX12_fool 58 = .ok (.iconst 0, 1) := by decide +kernel
theorem dX12_fool_59 : decode cX12_fool 59 = .ok (.invokevirtual 452, 3) := by decide +kernel
theorem dX12_fool_62 : decode cX12_fool 62 = .ok (.istore 4, 2) := by decide +kernel
theorem dX12_fool_64 : decode cX12_fool 64 = .ok (.aload_n 0, 1) := by decide +kernel
theorem dX12_fool_65 : decode cX12_fool 65 = .ok (.aload_n 0, 1) := by decide +kernel
theorem dX12_fool_66 : decode cX12_fool 66 = .ok (.getfield 311, 3) := by decide +kernel
theorem dX12_fool_69 : decode cX12_fool 69 = .ok (.iconst 1, 1) := by decide +kernel
theorem dX12_fool_70 : decode cX12_fool 70 = .ok (.iload_n 1, 1) := by decide +kernel
theorem dX12_fool_71 : decode cX12_fool 71 = .ok (.ishl, 1) := by decide +kernel
theorem dX12_fool_72 : decode cX12_fool 72 = .ok (.iconst (-1), 1) := by decide +kernel
theorem dX12_fool_73 : decode cX12_fool 73 = .ok (.ixor, 1) := by decide +kernel
theorem dX12_fool_74 : decode cX12_fool 74 = .ok (.iand, 1) := by decide +kernel
theorem dX12_fool_75 : decode cX12_fool 75 = .ok (.iload_n 2, 1) := by decide +kernel
theorem dX12_fool_76 : decode cX12_fool 76 = .ok (.iload_n 1, 1) := by decide +kernel
theorem dX12_fool_77 : decode cX12_fool 77 = .ok (.iload_n 3, 1) := by decide +kernel
theorem dX12_fool_78 : decode cX12_fool 78 = .ok (.iconst 1, 1) := by decide +kernel
theorem dX12_fool_79 : decode cX12_fool 79 = .ok (.if_icmp .ne 7, 3) := by decide +kernel
theorem dX12_fool_82 : decode cX12_fool 82 = .ok (.iconst 1, 1) := by decide +kernel
theorem dX12_fool_83 : decode cX12_fool 83 = .ok (.goto 4, 3) := by decide +kernel
theorem dX12_fool_86 : decode cX12_fool 86 = .ok (.iconst 0, 1) := by decide +kernel
theorem dX12_fool_87 : decode cX12_fool 87 = .ok (.invokevirtual 452, 3) := by decide +kernel
theorem dX12_fool_90 : decode cX12_fool 90 = .ok (.istore 5, 2) := by decide +kernel
theorem dX12_fool_92 : decode cX12_fool 92 = .ok (.iload_n 3, 1) := by decide +kernel
theorem dX12_fool_93 : decode cX12_fool 93 = .ok (.ifCond .ne 11, 3) := by decide +kernel
theorem dX12_fool_96 : decode cX12_fool 96 = .ok (.iload 5, 2) := by decide +kernel
theorem dX12_fool_98 : decode cX12_fool 98 = .ok (.iload 4, 2) := by decide +kernel
theorem dX12_fool_100 : decode cX12_fool 100 = .ok (.isub, 1) := by decide +kernel
theorem dX12_fool_101 : decode cX12_fool 101 = .ok (.goto 8, 3) := by decide +kernel
theorem dX12_fool_104 : decode cX12_fool 104 = .ok (.iload 4, 2) := by decide +kernel
theorem dX12_fool_106 : decode cX12_fool 106 = .ok (.iload 5, 2) := by decide +kernel
theorem dX12_fool_108 : decode cX12_fool 108 = .ok (.isub, 1) := by decide +kernel
theorem dX12_fool_109 : decode cX12_fool 109 = .ok (.ireturn, 1) := by decide +kernel
theorem dX12_up_0 : decode cX12_up 0 = .ok (.aload_n 0, 1) := by decide +kernel
theorem dX12_up_1 : decode cX12_up 1 = .ok (.iconst 0, 1) := by decide +kernel
theorem dX12_up_2 : decode cX12_up 2 = .ok (.putfield 131, 3) := by decide +kernel
theorem dX12_up_5 : decode cX12_up 5 = .ok (.aload_n 0, 1) := by decide +kernel
theorem dX12_up_6 : decode cX12_up 6 = .ok (.iload_n 1, 1) := by decide +kernel
theorem dX12_up_7 : decode cX12_up 7 = .ok (.invokevirtual 390, 3) := by decide +kernel
theorem dX12_up_10 : decode cX12_up 10 = .ok (.ifCond .eq 15, 3) := by decide +kernel
theorem dX12_up_13 : decode cX12_up 13 = .ok (.iload_n 2, 1) := by decide +kernel
theorem dX12_up_14 : decode cX12_up 14 = .ok (.i2l, 1) := by decide +kernel
theorem dX12_up_15 : decode cX12_up 15 = .ok (.lconst 0, 1) := by decide +kernel
theorem dX12_up_16 : decode cX12_up 16 = .ok (.ldc2_w 456, 3) := by decide +kernel
theorem dX12_up_19 : decode cX12_up 19 = .ok (.invokestatic 253, 3) := by decide +kernel
theorem dX12_up_22 : decode cX12_up 22 = .ok (.ifCond .ne 5, 3) := by decide +kernel
theorem dX12_up_25 : decode cX12_up 25 = .ok (.iconst (-1), 1) := by decide +kernel
theorem dX12_up_26 : decode cX12_up 26 = .ok (.ireturn, 1) := by decide +kernel
theorem dX12_up_27 : decode cX12_up 27 = .ok (.aload_n 0, 1) := by decide +kernel
theorem dX12_up_28 : decode cX12_up 28 = .ok (.invokevirtual 404, 3) := by decide +kernel
theorem dX12_up_31 : decode cX12_up 31 = .ok (.iconst (-1), 1) := by decide +kernel
theorem dX12_up_32 : decode cX12_up 32 = .ok (.istore_n 3, 1) := by decide +kernel
theorem dX12_up_33 : decode cX12_up 33 = .ok (.iconst 0, 1) := by decide +kernel
theorem dX12_up_34 : decode cX12_up 34 = .ok (.istore 4, 2) := by decide +kernel
theorem dX12_up_36 : decode cX12_up 36 = .ok (.iload 4, 2) := by decide +kernel
theorem dX12_up_38 : decode cX12_up 38 = .ok (.iconst 1, 1) := by decide +kernel
theorem dX12_up_39 : decode cX12_up 39 = .ok (.aload_n 0, 1) := by decide +kernel
theorem dX12_up_40 : decode cX12_up 40 = .ok (.getfield 305, 3) := by decide +kernel
theorem dX12_up_43 : decode cX12_up 43 = .ok (.ishl, 1) := by decide +kernel
theorem dX12_up_44 : decode cX12_up 44 = .ok (.if_icmp .ge 57, 3) := by decide +kernel
theorem dX12_up_47 : decode cX12_up 47 = .ok (.iload_n 3, 1) := by decide +kernel
theorem dX12_up_48 : decode cX12_up 48 = .ok (.iconst (-1), 1) := by decide +kernel
theorem dX12_up_49 : decode cX12_up 49 = .ok (.if_icmp .eq 18, 3) := by decide +kernel
theorem dX12_up_52 : decode cX12_up 52 = .ok (.iload 4, 2) := by decide +kernel
theorem dX12_up_54 : decode cX12_up 54 = .ok (.invokestatic 458, 3) := by decide +kernel
theorem dX12_up_57 : decode cX12_up 57 = .ok (.iload_n 3, 1) := by decide +kernel
theorem dX12_up_58 : decode cX12_up 58 = .ok (.invokestatic 458, 3) := by decide +kernel
theorem dX12_up_61 : decode cX12_up 61 = .ok (.if_icmp .lt 6, 3) := by decide +kernel
theorem dX12_up_64 : decode cX12_up 64 = .ok (.goto 31, 3) := by decide +kernel
theorem dX12_up_67 : decode cX12_up 67 = .ok (.aload_n 0, 1) := by decide +kernel
theorem dX12_up_68 : decode cX12_up 68 = .ok (.iload 4, 2) := by decide +kernel
theorem dX12_up_70 : decode cX12_up 70 = .ok (.putfield 342, 3) := by decide +kernel
theorem dX12_up_73 : decode cX12_up 73 = .ok (.aload_n 0, 1) := by decide +kernel
theorem dX12_up_74 : decode cX12_up 74 = .ok (.iload_n 1, 1) := by decide +kernel
theorem dX12_up_75 : decode cX12_up 75 = .ok (.invokevirtual 407, 3) := by decide +kernel
theorem dX12_up_78 : decode cX12_up 78 = .ok (.aload_n 0, 1) := by decide +kernel
theorem dX12_up_79 : decode cX12_up 79 = .ok (.invokevirtual 410, 3) := by decide +kernel
theorem dX12_up_82 : decode cX12_up 82 = .ok (.aload_n 0, 1) := by decide +kernel
theorem dX12_up_83 : decode cX12_up 83 = .ok (.getfield 88, 3) := by decide +kernel
theorem dX12_up_86 : decode cX12_up 86 = .ok (.iload_n 1, 1) := by decide +kernel
theorem dX12_up_87 : decode cX12_up 87 = .ok (.iaload, 1) := by decide +kernel
theorem dX12_up_88 : decode cX12_up 88 = .ok (.iload_n 2, 1) := by decide +kernel
theorem dX12_up_89 : decode cX12_up 89 = .ok (.if_icmp .lt 6, 3) := by decide +kernel
theorem dX12_up_92 : decode cX12_up 92 = .ok (.iload 4, 2) := by decide +kernel
theorem dX12_up_94 : decode cX12_up 94 = .ok (.istore_n 3, 1) := by decide +kernel
theorem dX12_up_95 : decode cX12_up 95 = .ok (.iinc 4 1, 3) := by decide +kernel
theorem dX12_up_98 : decode cX12_up 98 = .ok (.goto (-62), 3) := by decide +kernel
theorem dX12_up_101 : decode cX12_up 101 = .ok (.iload_n 3, 1) := by decide +kernel
theorem dX12_up_102 : decode cX12_up 102 = .ok (.ireturn, 1) := by decide +kernel
theorem dX12_when_0 : decode cX12_when 0 = .ok (.aload_n 0, 1) := by decide +kernel
theorem dX12_when_1 : decode cX12_when 1 = .ok (.iconst 0, 1) := by decide +kernel
theorem dX12_when_2 : decode cX12_when 2 = .ok (.putfield 131, 3) := by decide +kernel
theorem dX12_when_5 : decode cX12_when 5 = .ok (.aload_n 0, 1) := by decide +kernel
theorem dX12_when_6 : decode cX12_when 6 = .ok (.iload_n 1, 1) := by decide +kernel
theorem dX12_when_7 : decode cX12_when 7 = .ok (.invokevirtual 390, 3) := by decide +kernel
theorem dX12_when_10 : decode cX12_when 10 = .ok (.ifCond .eq 13, 3) := by decide +kernel
theorem dX12_when_13 : decode cX12_when 13 = .ok (.iload_n 2, 1) := by decide +kernel
theorem dX12_when_14 : decode cX12_when 14 = .ok (.i2l, 1) := by decide +kernel
theorem dX12_when_15 : decode cX12_when 15 = .ok (.lconst 0, 1) := by decide +kernel
theorem dX12_when_16 : decode cX12_when 16 = .ok (.lconst 1, 1) := by decide +kernel
theorem dX12_when_17 : decode cX12_when 17 = .ok (.invokestatic 253, 3) := by decide +kernel
theorem dX12_when_20 : decode cX12_when 20 = .ok (.ifCond .ne 5, 3) := by decide +kernel
theorem dX12_when_23 : decode cX12_when 23 = .ok (.iconst (-1), 1) := by decide +kernel
theorem dX12_when_24 : decode cX12_when 24 = .ok (.ireturn, 1) := by decide +kernel
theorem dX12_when_25 : decode cX12_when 25 = .ok (.aload_n 0, 1) := by decide +kernel
theorem dX12_when_26 : decode cX12_when 26 = .ok (.invokevirtual 404, 3) := by decide +kernel
theorem dX12_when_29 : decode cX12_when 29 = .ok (.iconst (-1), 1) := by decide +kernel
theorem dX12_when_30 : decode cX12_when 30 = .ok (.istore_n 3, 1) := by decide +kernel
theorem dX12_when_31 : decode cX12_when 31 = .ok (.iconst 0, 1) := by decide +kernel
theorem dX12_when_32 : decode cX12_when 32 = .ok (.istore 4, 2) := by decide +kernel
theorem dX12_when_34 : decode cX12_when 34 = .ok (.iconst 0, 1) := by decide +kernel
theorem dX12_when_35 : decode cX12_when 35 = .ok (.istore 5, 2) := by decide +kernel
theorem dX12_when_37 : decode cX12_when 37 = .ok (.iload 5, 2) := by decide +kernel
theorem dX12_when_39 : decode cX12_when 39 = .ok (.iload_n 1, 1) := by decide +kernel
theorem dX12_when_40 : decode cX12_when 40 = .ok (.if_icmp .ge 86, 3) := by decide +kernel
theorem dX12_when_43 : decode cX12_when 43 = .ok (.aload_n 0, 1) := by decide +kernel
theorem dX12_when_44 : decode cX12_when 44 = .ok (.iconst 0, 1) := by decide +kernel
theorem dX12_when_45 : decode cX12_when 45 = .ok (.invokevirtual 400, 3) := by decide +kernel
theorem dX12_when_48 : decode cX12_when 48 = .ok (.iconst 0, 1) := by decide +kernel
theorem dX12_when_49 : decode cX12_when 49 = .ok (.istore 6, 2) := by decide +kernel
theorem dX12_when_51 : decode cX12_when 51 = .ok (.iload 6, 2) := by decide +kernel
theorem dX12_when_53 : decode cX12_when 53 = .ok (.aload_n 0, 1) := by decide +kernel
theorem dX12_when_54 : decode cX12_when 54 = .ok (.getfield 305, 3) := by decide +kernel
theorem dX12_when_57 : decode cX12_when 57 = .ok (.if_icmp .ge 63, 3) := by decide +kernel
theorem dX12_when_60 : decode cX12_when 60 = .ok (.aload_n 0, 1) := by decide +kernel
theorem dX12_when_61 : decode cX12_when 61 = .ok (.getfield 73, 3) := by decide +kernel
theorem dX12_when_64 : decode cX12_when 64 = .ok (.iload 6, 2) := by decide +kernel
theorem dX12_when_66 : decode cX12_when 66 = .ok (.iaload, 1) := by decide +kernel
theorem dX12_when_67 : decode cX12_when 67 = .ok (.ifCond .eq 47, 3) := by decide +kernel
theorem dX12_when_70 : decode cX12_when 70 = .ok (.aload_n 0, 1) := by decide +kernel
theorem dX12_when_71 : decode cX12_when 71 = .ok (.getfield 342, 3) := by decide +kernel
theorem dX12_when_74 : decode cX12_when 74 = .ok (.iload 6, 2) := by decide +kernel
theorem dX12_when_76 : decode cX12_when 76 = .ok (.invokestatic 280, 3) := by decide +kernel
theorem dX12_when_79 : decode cX12_when 79 = .ok (.ifCond .ne 35, 3) := by decide +kernel
theorem dX12_when_82 : decode cX12_when 82 = .ok (.iload_n 3, 1) := by decide +kernel
theorem dX12_when_83 : decode cX12_when 83 = .ok (.iconst (-1), 1) := by decide +kernel
theorem dX12_when_84 : decode cX12_when 84 = .ok (.if_icmp .eq 18, 3) := by decide +kernel
theorem dX12_when_87 : decode cX12_when 87 = .ok (.aload_n 0, 1) := by decide +kernel
theorem dX12_when_88 : decode cX12_when 88 = .ok (.getfield 67, 3) := by decide +kernel
theorem dX12_when_91 : decode cX12_when 91 = .ok (.iload 6, 2) := by decide +kernel
theorem dX12_when_93 : decode cX12_when 93 = .ok (.iaload, 1) := by decide +kernel
theorem dX12_when_94 : decode cX12_when 94 = .ok (.iload 4, 2) := by decide +kernel
theorem dX12_when_96 : decode cX12_when 96 = .ok (.if_icmp .lt 6, 3) := by decide +kernel
theorem dX12_when_99 : decode cX12_when 99 = .ok (.goto 15, 3) := by decide +kernel
theorem dX12_when_102 : decode cX12_when 102 = .ok (.iload 5, 2) := by decide +kernel
theorem dX12_when_104 : decode cX12_when 104 = .ok (.istore_n 3, 1) := by decide +kernel
theorem dX12_when_105 : decode cX12_when 105 = .ok (.aload_n 0, 1) := by decide +kernel
theorem dX12_when_106 : decode cX12_when 106 = .ok (.getfield 67, 3) := by decide +kernel
theorem dX12_when_109 : decode cX12_when 109 = .ok (.iload 6, 2) := by decide +kernel
theorem dX12_when_111 : decode cX12_when 111 = .ok (.iaload, 1) := by decide +kernel
theorem dX12_when_112 : decode cX12_when 112 = .ok (.istore 4, 2) := by decide +kernel
theorem dX12_when_114 : decode cX12_when 114 = .ok (.iinc 6 1, 3) := by decide +kernel
theorem dX12_when_117 : decode cX12_when 117 = .ok (.goto (-66), 3) := by decide +kernel
theorem dX12_when_120 : decode cX12_when 120 = .ok (.iinc 5 1, 3) := by decide +kernel
theorem dX12_when_123 : decode cX12_when 123 = .ok (.goto (-86), 3) := by decide +kernel
theorem dX12_when_126 : decode cX12_when 126 = .ok (.aload_n 0, 1) := by decide +kernel
theorem dX12_when_127 : decode cX12_when 127 = .ok (.invokevirtual 410, 3) := by decide +kernel
theorem dX12_when_130 : decode cX12_when 130 = .ok (.iload_n 3, 1) := by decide +kernel
theorem dX12_when_131 : decode cX12_when 131 = .ok (.iconst (-1), 1) := by decide +kernel
theorem dX12_when_132 : decode cX12_when 132 = .ok (.if_icmp .ne 7, 3) := by decide +kernel
theorem dX12_when_135 : decode cX12_when 135 = .ok (.iconst (-1), 1) := by decide +kernel
theorem dX12_when_136 : decode cX12_when 136 = .ok (.goto 13, 3) := by decide +kernel
theorem dX12_when_139 : decode cX12_when 139 = .ok (.iload_n 2, 1) := by decide +kernel
theorem dX12_when_140 : decode cX12_when 140 = .ok (.ifCond .ne 7, 3) := by decide +kernel
theorem dX12_when_143 : decode cX12_when 143 = .ok (.iload_n 3, 1) := by decide +kernel
theorem dX12_when_144 : decode cX12_when 144 = .ok (.goto 5, 3) := by decide +kernel
theorem dX12_when_147 : decode cX12_when 147 = .ok (.iload 4, 2) := by decide +kernel
theorem dX12_when_149 : decode cX12_when 149 = .ok (.ireturn, 1) := by decide +kernel
theorem dX12_takenByAll_0 : decode cX12_takenByAll 0 = .ok (.iconst 0, 1) := by decide +kernel
theorem dX12_takenByAll_1 : decode cX12_takenByAll 1 = .ok (.istore_n 1, 1) := by decide +kernel
theorem dX12_takenByAll_2 : decode cX12_takenByAll 2 = .ok (.iconst 0, 1) := by decide +kernel
theorem dX12_takenByAll_3 : decode cX12_takenByAll 3 = .ok (.istore_n 2, 1) := by decide +kernel
theorem dX12_takenByAll_4 : decode cX12_takenByAll 4 = .ok (.iload_n 2, 1) := by decide +kernel
theorem dX12_takenByAll_5 : decode cX12_takenByAll 5 = .ok (.aload_n 0, 1) := by decide +kernel
theorem dX12_takenByAll_6 : decode cX12_takenByAll 6 = .ok (.getfield 305, 3) := by decide +kernel
theorem dX12_takenByAll_9 : decode cX12_takenByAll 9 = .ok (.if_icmp .ge 18, 3) := by decide +kernel
theorem dX12_takenByAll_12 : decode cX12_takenByAll 12 = .ok (.iload_n 1, 1) := by decide +kernel
theorem dX12_takenByAll_13 : decode cX12_takenByAll 13 = .ok (.aload_n 0, 1) := by decide +kernel
theorem dX12_takenByAll_14 : decode cX12_takenByAll 14 = .ok (.getfield 70, 3) := by decide +kernel
theorem dX12_takenByAll_17 : decode cX12_takenByAll 17 = .ok (.iload_n 2, 1) := by decide +kernel
theorem dX12_takenByAll_18 : decode cX12_takenByAll 18 = .ok (.iaload, 1) := by decide +kernel
theorem dX12_takenByAll_19 : decode cX12_takenByAll 19 = .ok (.iadd, 1) := by decide +kernel
theorem dX12_takenByAll_20 : decode cX12_takenByAll 20 = .ok (.istore_n 1, 1) := by decide +kernel
theorem dX12_takenByAll_21 : decode cX12_takenByAll 21 = .ok (.iinc 2 1, 3) := by decide +kernel
theorem dX12_takenByAll_24 : decode cX12_takenByAll 24 = .ok (.goto (-20), 3) := by decide +kernel
theorem dX12_takenByAll_27 : decode cX12_takenByAll 27 = .ok (.iload_n 1, 1) := by decide +kernel
theorem dX12_takenByAll_28 : decode cX12_takenByAll 28 = .ok (.ireturn, 1) := by decide +kernel
theorem dX12_stranger_0 : decode cX12_stranger 0 = .ok (.aload_n 0, 1) := by decide +kernel
theorem dX12_stranger_1 : decode cX12_stranger 1 = .ok (.iconst 0, 1) := by decide +kernel
theorem dX12_stranger_2 : decode cX12_stranger 2 = .ok (.putfield 131, 3) := by decide +kernel
theorem dX12_stranger_5 : decode cX12_stranger 5 = .ok (.aload_n 0, 1) := by decide +kernel
theorem dX12_stranger_6 : decode cX12_stranger 6 = .ok (.getfield 305, 3) := by decide +kernel
theorem dX12_stranger_9 : decode cX12_stranger 9 = .ok (.ifCond .eq 39, 3) := by decide +kernel
theorem dX12_stranger_12 : decode cX12_stranger 12 = .ok (.iload_n 1, 1) := by decide +kernel
theorem dX12_stranger_13 : decode cX12_stranger 13 = .ok (.i2l, 1) := by decide +kernel
theorem dX12_stranger_14 : decode cX12_stranger 14 = .ok (.lconst 1, 1) := by decide +kernel
theorem dX12_stranger_15 : decode cX12_stranger 15 = .ok (.ldc2_w 463, 3) := by decide +kernel
theorem dX12_stranger_18 : decode cX12_stranger 18 = .ok (.invokestatic 253, 3) := by decide +kernel
theorem dX12_stranger_21 : decode cX12_stranger 21 = .ok (.ifCond .eq 27, 3) := by decide +kernel
theorem dX12_stranger_24 : decode cX12_stranger 24 = .ok (.iload_n 2, 1) := by decide +kernel
theorem dX12_stranger_25 : decode cX12_stranger 25 = .ok (.i2l, 1) := by decide +kernel
theorem dX12_stranger_26 : decode cX12_stranger 26 = .ok (.lconst 0, 1) := by decide +kernel
theorem dX12_stranger_27 : decode cX12_stranger 27 = .ok (.ldc2_w 456, 3) := by decide +kernel
theorem dX12_stranger_30 : decode cX12_stranger 30 = .ok (.invokestatic 253, 3) := by decide +kernel
theorem dX12_stranger_33 : decode cX12_stranger 33 = .ok (.ifCond .eq 15, 3) := by decide +kernel
theorem dX12_stranger_36 : decode cX12_stranger 36 = .ok (.iload_n 3, 1) := by decide +kernel
theorem dX12_stranger_37 : decode cX12_stranger 37 = .ok (.i2l, 1) := by decide +kernel
theorem dX12_stranger_38 : decode cX12_stranger 38 = .ok (.lconst 0, 1) := by decide +kernel
theorem dX12_stranger_39 : decode cX12_stranger 39 = .ok (.ldc2_w 465, 3) := by decide +kernel
theorem dX12_stranger_42 : decode cX12_stranger 42 = .ok (.invokestatic 253, 3) := by decide +kernel
theorem dX12_stranger_45 : decode cX12_stranger 45 = .ok (.ifCond .ne 7, 3) := by decide +kernel
theorem dX12_stranger_48 : decode cX12_stranger 48 = .ok (.ldc_w 432, 3) := by decide +kernel
theorem dX12_stranger_51 : decode cX12_stranger 51 = .ok (.ireturn, 1) := by decide +kernel
theorem dX12_stranger_52 : decode cX12_stranger 52 = .ok (.aload_n 0, 1) := by decide +kernel
theorem dX12_stranger_53 : decode cX12_stranger 53 = .ok (.invokevirtual 404, 3) := by decide +kernel
theorem dX12_stranger_56 : decode cX12_stranger 56 = .ok (.aload_n 0, 1) := by decide +kernel
theorem dX12_stranger_57 : decode cX12_stranger 57 = .ok (.iconst 0, 1) := by decide +kernel
theorem dX12_stranger_58 : decode cX12_stranger 58 = .ok (.invokevirtual 400, 3) := by decide +kernel
theorem dX12_stranger_61 : decode cX12_stranger 61 = .ok (.aload_n 0, 1) := by decide +kernel
theorem dX12_stranger_62 : decode cX12_stranger 62 = .ok (.invokevirtual 467, 3) := by decide +kernel
theorem dX12_stranger_65 : decode cX12_stranger 65 = .ok (.istore 4, 2) := by decide +kernel
theorem dX12_stranger_67 : decode cX12_stranger 67 = .ok (.aload_n 0, 1) := by decide +kernel
theorem dX12_stranger_68 : decode cX12_stranger 68 = .ok (.invokevirtual 410, 3) := by decide +kernel
theorem dX12_stranger_71 : decode cX12_stranger 71 = .ok (.aload_n 0, 1) := by decide +kernel
theorem dX12_stranger_72 : decode cX12_stranger 72 = .ok (.iload_n 1, 1) := by decide +kernel
theorem dX12_stranger_73 : decode cX12_stranger 73 = .ok (.putfield 349, 3) := by decide +kernel
theorem dX12_stranger_76 : decode cX12_stranger 76 = .ok (.aload_n 0, 1) := by decide +kernel
theorem dX12_stranger_77 : decode cX12_stranger 77 = .ok (.iload_n 2, 1) := by decide +kernel
theorem dX12_stranger_78 : decode cX12_stranger 78 = .ok (.putfield 376, 3) := by decide +kernel
theorem dX12_stranger_81 : decode cX12_stranger 81 = .ok (.aload_n 0, 1) := by decide +kernel
theorem dX12_stranger_82 : decode cX12_stranger 82 = .ok (.iconst 0, 1) := by decide +kernel
theorem dX12_stranger_83 : decode cX12_stranger 83 = .ok (.invokevirtual 400, 3) := by decide +kernel
theorem dX12_stranger_86 : decode cX12_stranger 86 = .ok (.aload_n 0, 1) := by decide +kernel
theorem dX12_stranger_87 : decode cX12_stranger 87 = .ok (.getfield 55, 3) := by decide +kernel
theorem dX12_stranger_90 : decode cX12_stranger 90 = .ok (.bipush 54, 2) := by decide +kernel
theorem dX12_stranger_92 : decode cX12_stranger 92 = .ok (.iaload, 1) := by decide +kernel
theorem dX12_stranger_93 : decode cX12_stranger 93 = .ok (.istore 5, 2) := by decide +kernel
theorem dX12_stranger_95 : decode cX12_stranger 95 = .ok (.iload 4, 2) := by decide +kernel
theorem dX12_stranger_97 : decode cX12_stranger 97 = .ok (.aload_n 0, 1) := by decide +kernel
theorem dX12_stranger_98 : decode cX12_stranger 98 = .ok (.invokevirtual 467, 3) := by decide +kernel
theorem dX12_stranger_101 : decode cX12_stranger 101 = .ok (.isub, 1) := by decide +kernel
theorem dX12_stranger_102 : decode cX12_stranger 102 = .ok (.istore 6, 2) := by decide +kernel
theorem dX12_stranger_104 : decode cX12_stranger 104 = .ok (.aload_n 0, 1) := by decide +kernel
theorem dX12_stranger_105 : decode cX12_stranger 105 = .ok (.invokevirtual 410, 3) := by decide +kernel
theorem dX12_stranger_108 : decode cX12_stranger 108 = .ok (.aload_n 0, 1) := by decide +kernel
theorem dX12_stranger_109 : decode cX12_stranger 109 = .ok (.iconst 0, 1) := by decide +kernel
theorem dX12_stranger_110 : decode cX12_stranger 110 = .ok (.putfield 349, 3) := by decide +kernel
theorem dX12_stranger_113 : decode cX12_stranger 113 = .ok (.iload_n 3, 1) := by decide +kernel
theorem dX12_stranger_114 : decode cX12_stranger 114 = .ok (.ifCond .ne 8, 3) := by decide +kernel
theorem dX12_stranger_117 : decode cX12_stranger 117 = .ok (.iload 5, 2) := by decide +kernel
theorem dX12_stranger_119 : decode cX12_stranger 119 = .ok (.goto 17, 3) := by decide +kernel
theorem dX12_stranger_122 : decode cX12_stranger 122 = .ok (.iload_n 3, 1) := by decide +kernel
theorem dX12_stranger_123 : decode cX12_stranger 123 = .ok (.iconst 1, 1) := by decide +kernel
theorem dX12_stranger_124 : decode cX12_stranger 124 = .ok (.if_icmp .ne 10, 3) := by decide +kernel
theorem dX12_stranger_127 : decode cX12_stranger 127 = .ok (.aload_n 0, 1) := by decide +kernel
theorem dX12_stranger_128 : decode cX12_stranger 128 = .ok (.getfield 352, 3) := by decide +kernel
theorem dX12_stranger_131 : decode cX12_stranger 131 = .ok (.goto 5, 3) := by decide +kernel
theorem dX12_stranger_134 : decode cX12_stranger 134 = .ok (.iload 6, 2) := by decide +kernel
theorem dX12_stranger_136 : decode cX12_stranger 136 = .ok (.ireturn, 1) := by decide +kernel
theorem dX12_see_0 : decode cX12_see 0 = .ok (.aload_n 0, 1) := by decide +kernel
theorem dX12_see_1 : decode cX12_see 1 = .ok (.iconst 0, 1) := by decide +kernel
theorem dX12_see_2 : decode cX12_see 2 = .ok (.putfield 131, 3) := by decide +kernel
theorem dX12_see_5 : decode cX12_see 5 = .ok (.aload_n 0, 1) := by decide +kernel
theorem dX12_see_6 : decode cX12_see 6 = .ok (.getfield 305, 3) := by decide +kernel
theorem dX12_see_9 : decode cX12_see 9 = .ok (.ifCond .eq 31, 3) := by decide +kernel
theorem dX12_see_12 : decode cX12_see 12 = .ok (.aload_n 0, 1) := by decide +kernel
theorem dX12_see_13 : decode cX12_see 13 = .ok (.getfield 314, 3) := by decide +kernel
theorem dX12_see_16 : decode cX12_see 16 = .ok (.bipush 20, 2) := by decide +kernel
theorem dX12_see_18 : decode cX12_see 18 = .ok (.if_icmp .eq 22, 3) := by decide +kernel
theorem dX12_see_21 : decode cX12_see 21 = .ok (.iload_n 1, 1) := by decide +kernel
theorem dX12_see_22 : decode cX12_see 22 = .ok (.invokestatic 387, 3) := by decide +kernel
theorem dX12_see_25 : decode cX12_see 25 = .ok (.ifCond .eq 15, 3) := by decide +kernel
theorem dX12_see_28 : decode cX12_see 28 = .ok (.iload_n 2, 1) := by decide +kernel
theorem dX12_see_29 : decode cX12_see 29 = .ok (.i2l, 1) := by decide +kernel
theorem dX12_see_30 : decode cX12_see 30 = .ok (.lconst 0, 1) := by decide +kernel
theorem dX12_see_31 : decode cX12_see 31 = .ok (.ldc2_w 456, 3) := by decide +kernel
theorem dX12_see_34 : decode cX12_see 34 = .ok (.invokestatic 253, 3) := by decide +kernel
theorem dX12_see_37 : decode cX12_see 37 = .ok (.ifCond .ne 5, 3) := by decide +kernel
theorem dX12_see_40 : decode cX12_see 40 = .ok (.iconst (-1), 1) := by decide +kernel
theorem dX12_see_41 : decode cX12_see 41 = .ok (.ireturn, 1) := by decide +kernel
theorem dX12_see_42 : decode cX12_see 42 = .ok (.aload_n 0, 1) := by decide +kernel
theorem dX12_see_43 : decode cX12_see 43 = .ok (.getfield 107, 3) := by decide +kernel
theorem dX12_see_46 : decode cX12_see 46 = .ok (.aload_n 0, 1) := by decide +kernel
theorem dX12_see_47 : decode cX12_see 47 = .ok (.getfield 314, 3) := by decide +kernel
theorem dX12_see_50 : decode cX12_see 50 = .ok (.iload_n 1, 1) := by decide +kernel
theorem dX12_see_51 : decode cX12_see 51 = .ok (.iastore, 1) := by decide +kernel
theorem dX12_see_52 : decode cX12_see 52 = .ok (.aload_n 0, 1) := by decide +kernel
theorem dX12_see_53 : decode cX12_see 53 = .ok (.getfield 110, 3) := by decide +kernel
theorem dX12_see_56 : decode cX12_see 56 = .ok (.aload_n 0, 1) := by decide +kernel
theorem dX12_see_57 : decode cX12_see 57 = .ok (.getfield 314, 3) := by decide +kernel
theorem dX12_see_60 : decode cX12_see 60 = .ok (.iload_n 2, 1) := by decide +kernel
theorem dX12_see_61 : decode cX12_see 61 = .ok (.iastore, 1) := by decide +kernel
theorem dX12_see_62 : decode cX12_see 62 = .ok (.aload_n 0, 1) := by decide +kernel
theorem dX12_see_63 : decode cX12_see 63 = .ok (.dup, 1) := by decide +kernel
theorem dX12_see_64 : decode cX12_see 64 = .ok (.getfield 314, 3) := by decide +kernel
theorem dX12_see_67 : decode cX12_see 67 = .ok (.iconst 1, 1) := by decide +kernel
theorem dX12_see_68 : decode cX12_see 68 = .ok (.iadd, 1) := by decide +kernel
theorem dX12_see_69 : decode cX12_see 69 = .ok (.putfield 314, 3) := by decide +kernel
theorem dX12_see_72 : decode cX12_see 72 = .ok (.aload_n 0, 1) := by decide +kernel
theorem dX12_see_73 : decode cX12_see 73 = .ok (.getfield 314, 3) := by decide +kernel
theorem dX12_see_76 : decode cX12_see 76 = .ok (.ireturn, 1) := by decide +kernel
theorem dX12_fits_0 : decode cX12_fits 0 = .ok (.aload_n 0, 1) := by decide +kernel
theorem dX12_fits_1 : decode cX12_fits 1 = .ok (.iconst 0, 1) := by decide +kernel
theorem dX12_fits_2 : decode cX12_fits 2 = .ok (.putfield 131, 3) := by decide +kernel
theorem dX12_fits_5 : decode cX12_fits 5 = .ok (.aload_n 0, 1) := by decide +kernel
theorem dX12_fits_6 : decode cX12_fits 6 = .ok (.getfield 305, 3) := by decide +kernel
theorem dX12_fits_9 : decode cX12_fits 9 = .ok (.ifCond .eq 8, 3) := by decide +kernel
theorem dX12_fits_12 : decode cX12_fits 12 = .ok (.iload_n 1, 1) := by decide +kernel
theorem dX12_fits_13 : decode cX12_fits 13 = .ok (.iconst (-1), 1) := by decide +kernel
theorem dX12_fits_14 : decode cX12_fits 14 = .ok (.if_icmp .ge 5, 3) := by decide +kernel
theorem dX12_fits_17 : decode cX12_fits 17 = .ok (.iconst (-1), 1) := by decide +kernel
theorem dX12_fits_18 : decode cX12_fits 18 = .ok (.ireturn, 1) := by decide +kernel
theorem dX12_fits_19 : decode cX12_fits 19 = .ok (.aload_n 0, 1) := by decide +kernel
theorem dX12_fits_20 : decode cX12_fits 20 = .ok (.invokevirtual 404, 3) := by decide +kernel
theorem dX12_fits_23 : decode cX12_fits 23 = .ok (.iconst 0, 1) := by decide +kernel
theorem dX12_fits_24 : decode cX12_fits 24 = .ok (.istore_n 2, 1) := by decide +kernel
theorem dX12_fits_25 : decode cX12_fits 25 = .ok (.iconst (-1), 1) := by decide +kernel
theorem dX12_fits_26 : decode cX12_fits 26 = .ok (.istore_n 3, 1) := by decide +kernel
theorem dX12_fits_27 : decode cX12_fits 27 = .ok (.iconst 0, 1) := by decide +kernel
theorem dX12_fits_28 : decode cX12_fits 28 = .ok (.istore 4, 2) := by decide +kernel
theorem dX12_fits_30 : decode cX12_fits 30 = .ok (.iload 4, 2) := by decide +kernel
theorem dX12_fits_32 : decode cX12_fits 32 = .ok (.iconst 1, 1) := by decide +kernel
theorem dX12_fits_33 : decode cX12_fits 33 = .ok (.aload_n 0, 1) := by decide +kernel
theorem dX12_fits_34 : decode cX12_fits 34 = .ok (.getfield 305, 3) := by decide +kernel
theorem dX12_fits_37 : decode cX12_fits 37 = .ok (.ishl, 1) := by decide +kernel
theorem dX12_fits_38 : decode cX12_fits 38 = .ok (.if_icmp .ge 99, 3) := by decide +kernel
theorem dX12_fits_41 : decode cX12_fits 41 = .ok (.aload_n 0, 1) := by decide +kernel
theorem dX12_fits_42 : decode cX12_fits 42 = .ok (.iload 4, 2) := by decide +kernel
theorem dX12_fits_44 : decode cX12_fits 44 = .ok (.putfield 342, 3) := by decide +kernel
theorem dX12_fits_47 : decode cX12_fits 47 = .ok (.aload_n 0, 1) := by decide +kernel
theorem dX12_fits_48 : decode cX12_fits 48 = .ok (.bipush 30, 2) := by decide +kernel
theorem dX12_fits_50 : decode cX12_fits 50 = .ok (.invokevirtual 407, 3) := by decide +kernel
theorem dX12_fits_53 : decode cX12_fits 53 = .ok (.aload_n 0, 1) := by decide +kernel
theorem dX12_fits_54 : decode cX12_fits 54 = .ok (.invokevirtual 410, 3) := by decide +kernel
theorem dX12_fits_57 : decode cX12_fits 57 = .ok (.iconst 1, 1) := by decide +kernel
theorem dX12_fits_58 : decode cX12_fits 58 = .ok (.istore 5, 2) := by decide +kernel
theorem dX12_fits_60 : decode cX12_fits 60 = .ok (.iconst 0, 1) := by decide +kernel
theorem dX12_fits_61 : decode cX12_fits 61 = .ok (.istore 6, 2) := by decide +kernel
theorem dX12_fits_63 : decode cX12_fits 63 = .ok (.iload 6, 2) := by decide +kernel
theorem dX12_fits_65 : decode cX12_fits 65 = .ok (.aload_n 0, 1) := by decide +kernel
theorem dX12_fits_66 : decode cX12_fits 66 = .ok (.getfield 314, 3) := by decide +kernel
theorem dX12_fits_69 : decode cX12_fits 69 = .ok (.if_icmp .ge 43, 3) := by decide +kernel
theorem dX12_fits_72 : decode cX12_fits 72 = .ok (.iload 5, 2) := by decide +kernel
theorem dX12_fits_74 : decode cX12_fits 74 = .ok (.ifCond .eq 29, 3) := by decide +kernel
theorem dX12_fits_77 : decode cX12_fits 77 = .ok (.aload_n 0, 1) := by decide +kernel
theorem dX12_fits_78 : decode cX12_fits 78 = .ok (.getfield 88, 3) := by decide +kernel
theorem dX12_fits_81 : decode cX12_fits 81 = .ok (.aload_n 0, 1) := by decide +kernel
theorem dX12_fits_82 : decode cX12_fits 82 = .ok (.getfield 107, 3) := by decide +kernel
theorem dX12_fits_85 : decode cX12_fits 85 = .ok (.iload 6, 2) := by decide +kernel
theorem dX12_fits_87 : decode cX12_fits 87 = .ok (.iaload, 1) := by decide +kernel
theorem dX12_fits_88 : decode cX12_fits 88 = .ok (.iaload, 1) := by decide +kernel
theorem dX12_fits_89 : decode cX12_fits 89 = .ok (.aload_n 0, 1) := by decide +kernel
theorem dX12_fits_90 : decode cX12_fits 90 = .ok (.getfield 110, 3) := by decide +kernel
theorem dX12_fits_93 : decode cX12_fits 93 = .ok (.iload 6, 2) := by decide +kernel
theorem dX12_fits_95 : decode cX12_fits 95 = .ok (.iaload, 1) := by decide +kernel
theorem dX12_fits_96 : decode cX12_fits 96 = .ok (.if_icmp .ne 7, 3) := by decide +kernel
theorem dX12_fits_99 : decode cX12_fits 99 = .ok (.iconst 1, 1) := by decide +kernel
theorem dX12_fits_100 : decode cX12_fits 100 = .ok (.goto 4, 3) := by decide +kernel
theorem dX12_fits_103 : decode cX12_fits 103 = .ok (.iconst 0, 1) := by decide +kernel
theorem dX12_fits_104 : decode cX12_fits 104 = .ok (.istore 5, 2) := by decide +kernel
theorem dX12_fits_106 : decode cX12_fits 106 = .ok (.iinc 6 1, 3) := by decide +kernel
theorem dX12_fits_109 : decode cX12_fits 109 = .ok (.goto (-46), 3) := by decide +kernel
theorem dX12_fits_112 : decode cX12_fits 112 = .ok (.iload 5, 2) := by decide +kernel
theorem dX12_fits_114 : decode cX12_fits 114 = .ok (.ifCond .ne 6, 3) := by decide +kernel
theorem dX12_fits_117 : decode cX12_fits 117 = .ok (.goto 14, 3) := by decide +kernel
theorem dX12_fits_120 : decode cX12_fits 120 = .ok (.iload_n 2, 1) := by decide +kernel
theorem dX12_fits_121 : decode cX12_fits 121 = .ok (.iload_n 1, 1) := by decide +kernel
theorem dX12_fits_122 : decode cX12_fits 122 = .ok (.if_icmp .ne 6, 3) := by decide +kernel
theorem dX12_fits_125 : decode cX12_fits 125 = .ok (.iload 4, 2) := by decide +kernel
theorem dX12_fits_127 : decode cX12_fits 127 = .ok (.istore_n 3, 1) := by decide +kernel
theorem dX12_fits_128 : decode cX12_fits 128 = .ok (.iinc 2 1, 3) := by decide +kernel
theorem dX12_fits_131 : decode cX12_fits 131 = .ok (.iinc 4 1, 3) := by decide +kernel
theorem dX12_fits_134 : decode cX12_fits 134 = .ok (.goto (-104), 3) := by decide +kernel
theorem dX12_fits_137 : decode cX12_fits 137 = .ok (.iload_n 1, 1) := by decide +kernel
theorem dX12_fits_138 : decode cX12_fits 138 = .ok (.iconst (-1), 1) := by decide +kernel
theorem dX12_fits_139 : decode cX12_fits 139 = .ok (.if_icmp .ne 7, 3) := by decide +kernel
theorem dX12_fits_142 : decode cX12_fits 142 = .ok (.iload_n 2, 1) := by decide +kernel
theorem dX12_fits_143 : decode cX12_fits 143 = .ok (.goto 4, 3) := by decide +kernel
theorem dX12_fits_146 : decode cX12_fits 146 = .ok (.iload_n 3, 1) := by decide +kernel
theorem dX12_fits_147 : decode cX12_fits 147 = .ok (.ireturn, 1) := by decide +kernel
theorem dX12_other_0 : decode cX12_other 0 = .ok (.aload_n 0, 1) := by decide +kernel
theorem dX12_other_1 : decode cX12_other 1 = .ok (.iconst 0, 1) := by decide +kernel
theorem dX12_other_2 : decode cX12_other 2 = .ok (.putfield 131, 3) := by decide +kernel
theorem dX12_other_5 : decode cX12_other 5 = .ok (.aload_n 0, 1) := by decide +kernel
theorem dX12_other_6 : decode cX12_other 6 = .ok (.iload_n 2, 1) := by decide +kernel
theorem dX12_other_7 : decode cX12_other 7 = .ok (.invokevirtual 390, 3) := by decide +kernel
theorem dX12_other_10 : decode cX12_other 10 = .ok (.ifCond .eq 27, 3) := by decide +kernel
theorem dX12_other_13 : decode cX12_other 13 = .ok (.iload_n 1, 1) := by decide +kernel
theorem dX12_other_14 : decode cX12_other 14 = .ok (.i2l, 1) := by decide +kernel
theorem dX12_other_15 : decode cX12_other 15 = .ok (.lconst 0, 1) := by decide +kernel
theorem dX12_other_16 : decode cX12_other 16 = .ok (.ldc2_w 465, 3) := by decide +kernel
theorem dX12_other_19 : decode cX12_other 19 = .ok (.invokestatic 253, 3) := by decide +kernel
theorem dX12_other_22 : decode cX12_other 22 = .ok (.ifCond .eq 15, 3) := by decide +kernel
theorem dX12_other_25 : decode cX12_other 25 = .ok (.iload_n 3, 1) := by decide +kernel
theorem dX12_other_26 : decode cX12_other 26 = .ok (.i2l, 1) := by decide +kernel
theorem dX12_other_27 : decode cX12_other 27 = .ok (.lconst 0, 1) := by decide +kernel
theorem dX12_other_28 : decode cX12_other 28 = .ok (.ldc2_w 465, 3) := by decide +kernel
theorem dX12_other_31 : decode cX12_other 31 = .ok (.invokestatic 253, 3) := by decide +kernel
theorem dX12_other_34 : decode cX12_other 34 = .ok (.ifCond .ne 7, 3) := by decide +kernel
theorem dX12_other_37 : decode cX12_other 37 = .ok (.ldc_w 432, 3) := by decide +kernel
theorem dX12_other_40 : decode cX12_other 40 = .ok (.ireturn, 1) := by decide +kernel
theorem dX12_other_41 : decode cX12_other 41 = .ok (.aload_n 0, 1) := by decide +kernel
theorem dX12_other_42 : decode cX12_other 42 = .ok (.invokevirtual 404, 3) := by decide +kernel
theorem dX12_other_45 : decode cX12_other 45 = .ok (.aload_n 0, 1) := by decide +kernel
theorem dX12_other_46 : decode cX12_other 46 = .ok (.iload_n 1, 1) := by decide +kernel
theorem dX12_other_47 : decode cX12_other 47 = .ok (.putfield 370, 3) := by decide +kernel
theorem dX12_other_50 : decode cX12_other 50 = .ok (.aload_n 0, 1) := by decide +kernel
theorem dX12_other_51 : decode cX12_other 51 = .ok (.iload_n 2, 1) := by decide +kernel
theorem dX12_other_52 : decode cX12_other 52 = .ok (.invokevirtual 407, 3) := by decide +kernel
theorem dX12_other_55 : decode cX12_other 55 = .ok (.iconst 0, 1) := by decide +kernel
theorem dX12_other_56 : decode cX12_other 56 = .ok (.istore 4, 2) := by decide +kernel
theorem dX12_other_58 : decode cX12_other 58 = .ok (.iconst 0, 1) := by decide +kernel
theorem dX12_other_59 : decode cX12_other 59 = .ok (.istore 5, 2) := by decide +kernel
theorem dX12_other_61 : decode cX12_other 61 = .ok (.iload 5, 2) := by decide +kernel
theorem dX12_other_63 : decode cX12_other 63 = .ok (.aload_n 0, 1) := by decide +kernel
theorem dX12_other_64 : decode cX12_other 64 = .ok (.getfield 305, 3) := by decide +kernel
theorem dX12_other_67 : decode cX12_other 67 = .ok (.if_icmp .ge 35, 3) := by decide +kernel
theorem dX12_other_70 : decode cX12_other 70 = .ok (.iload 4, 2) := by decide +kernel
theorem dX12_other_72 : decode cX12_other 72 = .ok (.aload_n 0, 1) := by decide +kernel
theorem dX12_other_73 : decode cX12_other 73 = .ok (.getfield 55, 3) := by decide +kernel
theorem dX12_other_76 : decode cX12_other 76 = .ok (.bipush 12, 2) := by decide +kernel
theorem dX12_other_78 : decode cX12_other 78 = .ok (.iload 5, 2) := by decide +kernel
theorem dX12_other_80 : decode cX12_other 80 = .ok (.iadd, 1) := by decide +kernel
theorem dX12_other_81 : decode cX12_other 81 = .ok (.iaload, 1) := by decide +kernel
theorem dX12_other_82 : decode cX12_other 82 = .ok (.aload_n 0, 1) := by decide +kernel
theorem dX12_other_83 : decode cX12_other 83 = .ok (.getfield 58, 3) := by decide +kernel
theorem dX12_other_86 : decode cX12_other 86 = .ok (.bipush 12, 2) := by decide +kernel
theorem dX12_other_88 : decode cX12_other 88 = .ok (.iload 5, 2) := by decide +kernel
theorem dX12_other_90 : decode cX12_other 90 = .ok (.iadd, 1) := by decide +kernel
theorem dX12_other_91 : decode cX12_other 91 = .ok (.iaload, 1) := by decide +kernel
theorem dX12_other_92 : decode cX12_other 92 = .ok (.isub, 1) := by decide +kernel
theorem dX12_other_93 : decode cX12_other 93 = .ok (.iadd, 1) := by decide +kernel
theorem dX12_other_94 : decode cX12_other 94 = .ok (.istore 4, 2) := by decide +kernel
theorem dX12_other_96 : decode cX12_other 96 = .ok (.iinc 5 1, 3) := by decide +kernel
theorem dX12_other_99 : decode cX12_other 99 = .ok (.goto (-38), 3) := by decide +kernel
theorem dX12_other_102 : decode cX12_other 102 = .ok (.aload_n 0, 1) := by decide +kernel
theorem dX12_other_103 : decode cX12_other 103 = .ok (.getfield 55, 3) := by decide +kernel
theorem dX12_other_106 : decode cX12_other 106 = .ok (.bipush 55, 2) := by decide +kernel
theorem dX12_other_108 : decode cX12_other 108 = .ok (.iaload, 1) := by decide +kernel
theorem dX12_other_109 : decode cX12_other 109 = .ok (.aload_n 0, 1) := by decide +kernel
theorem dX12_other_110 : decode cX12_other 110 = .ok (.getfield 58, 3) := by decide +kernel
theorem dX12_other_113 : decode cX12_other 113 = .ok (.bipush 55, 2) := by decide +kernel
theorem dX12_other_115 : decode cX12_other 115 = .ok (.iaload, 1) := by decide +kernel
theorem dX12_other_116 : decode cX12_other 116 = .ok (.isub, 1) := by decide +kernel
theorem dX12_other_117 : decode cX12_other 117 = .ok (.istore 5, 2) := by decide +kernel
theorem dX12_other_119 : decode cX12_other 119 = .ok (.aload_n 0, 1) := by decide +kernel
theorem dX12_other_120 : decode cX12_other 120 = .ok (.invokevirtual 410, 3) := by decide +kernel
theorem dX12_other_123 : decode cX12_other 123 = .ok (.iload_n 3, 1) := by decide +kernel
theorem dX12_other_124 : decode cX12_other 124 = .ok (.ifCond .ne 8, 3) := by decide +kernel
theorem dX12_other_127 : decode cX12_other 127 = .ok (.iload 4, 2) := by decide +kernel
theorem dX12_other_129 : decode cX12_other 129 = .ok (.goto 18, 3) := by decide +kernel
theorem dX12_other_132 : decode cX12_other 132 = .ok (.iload_n 3, 1) := by decide +kernel
theorem dX12_other_133 : decode cX12_other 133 = .ok (.iconst 1, 1) := by decide +kernel
theorem dX12_other_134 : decode cX12_other 134 = .ok (.if_icmp .ne 8, 3) := by decide +kernel
theorem dX12_other_137 : decode cX12_other 137 = .ok (.iload 5, 2) := by decide +kernel
theorem dX12_other_139 : decode cX12_other 139 = .ok (.goto 8, 3) := by decide +kernel
theorem dX12_other_142 : decode cX12_other 142 = .ok (.aload_n 0, 1) := by decide +kernel
theorem dX12_other_143 : decode cX12_other 143 = .ok (.iload_n 2, 1) := by decide +kernel
theorem dX12_other_144 : decode cX12_other 144 = .ok (.invokevirtual 413, 3) := by decide +kernel
theorem dX12_other_147 : decode cX12_other 147 = .ok (.ireturn, 1) := by decide +kernel
theorem dX12_ask_0 : decode cX12_ask 0 = .ok (.aload_n 0, 1) := by decide +kernel
theorem dX12_ask_1 : decode cX12_ask 1 = .ok (.iconst 0, 1) := by decide +kernel
theorem dX12_ask_2 : decode cX12_ask 2 = .ok (.putfield 131, 3) := by decide +kernel
theorem dX12_ask_5 : decode cX12_ask 5 = .ok (.aload_n 0, 1) := by decide +kernel
theorem dX12_ask_6 : decode cX12_ask 6 = .ok (.getfield 317, 3) := by decide +kernel
theorem dX12_ask_9 : decode cX12_ask 9 = .ok (.bipush 60, 2) := by decide +kernel
theorem dX12_ask_11 : decode cX12_ask 11 = .ok (.if_icmp .eq 35, 3) := by decide +kernel
theorem dX12_ask_14 : decode cX12_ask 14 = .ok (.aload_n 0, 1) := by decide +kernel
theorem dX12_ask_15 : decode cX12_ask 15 = .ok (.iload_n 1, 1) := by decide +kernel
theorem dX12_ask_16 : decode cX12_ask 16 = .ok (.invokevirtual 323, 3) := by decide +kernel
theorem dX12_ask_19 : decode cX12_ask 19 = .ok (.ifCond .eq 27, 3) := by decide +kernel
theorem dX12_ask_22 : decode cX12_ask 22 = .ok (.iload_n 2, 1) := by decide +kernel
theorem dX12_ask_23 : decode cX12_ask 23 = .ok (.i2l, 1) := by decide +kernel
theorem dX12_ask_24 : decode cX12_ask 24 = .ok (.lconst 0, 1) := by decide +kernel
theorem dX12_ask_25 : decode cX12_ask 25 = .ok (.ldc2_w 470, 3) := by decide +kernel
theorem dX12_ask_28 : decode cX12_ask 28 = .ok (.invokestatic 253, 3) := by decide +kernel
theorem dX12_ask_31 : decode cX12_ask 31 = .ok (.ifCond .eq 15, 3) := by decide +kernel
theorem dX12_ask_34 : decode cX12_ask 34 = .ok (.iload_n 3, 1) := by decide +kernel
theorem dX12_ask_35 : decode cX12_ask 35 = .ok (.i2l, 1) := by decide +kernel
theorem dX12_ask_36 : decode cX12_ask 36 = .ok (.lconst 0, 1) := by decide +kernel
theorem dX12_ask_37 : decode cX12_ask 37 = .ok (.ldc2_w 456, 3) := by decide +kernel
theorem dX12_ask_40 : decode cX12_ask 40 = .ok (.invokestatic 253, 3) := by decide +kernel
theorem dX12_ask_43 : decode cX12_ask 43 = .ok (.ifCond .ne 5, 3) := by decide +kernel
theorem dX12_ask_46 : decode cX12_ask 46 = .ok (.iconst (-1), 1) := by decide +kernel
theorem dX12_ask_47 : decode cX12_ask 47 = .ok (.ireturn, 1) := by decide +kernel
theorem dX12_ask_48 : decode cX12_ask 48 = .ok (.aload_n 0, 1) := by decide +kernel
theorem dX12_ask_49 : decode cX12_ask 49 = .ok (.getfield 113, 3) := by decide +kernel
theorem dX12_ask_52 : decode cX12_ask 52 = .ok (.aload_n 0, 1) := by decide +kernel
theorem dX12_ask_53 : decode cX12_ask 53 = .ok (.getfield 317, 3) := by decide +kernel
theorem dX12_ask_56 : decode cX12_ask 56 = .ok (.iload_n 1, 1) := by decide +kernel
theorem dX12_ask_57 : decode cX12_ask 57 = .ok (.iastore, 1) := by decide +kernel
theorem dX12_ask_58 : decode cX12_ask 58 = .ok (.aload_n 0, 1) := by decide +kernel
theorem dX12_ask_59 : decode cX12_ask 59 = .ok (.getfield 116, 3) := by decide +kernel
theorem dX12_ask_62 : decode cX12_ask 62 = .ok (.aload_n 0, 1) := by decide +kernel
theorem dX12_ask_63 : decode cX12_ask 63 = .ok (.getfield 317, 3) := by decide +kernel
theorem dX12_ask_66 : decode cX12_ask 66 = .ok (.iload_n 2, 1) := by decide +kernel
theorem dX12_ask_67 : decode cX12_ask 67 = .ok (.iastore, 1) := by decide +kernel
theorem dX12_ask_68 : decode cX12_ask 68 = .ok (.aload_n 0, 1) := by decide +kernel
theorem dX12_ask_69 : decode cX12_ask 69 = .ok (.getfield 119, 3) := by decide +kernel
theorem dX12_ask_72 : decode cX12_ask 72 = .ok (.aload_n 0, 1) := by decide +kernel
theorem dX12_ask_73 : decode cX12_ask 73 = .ok (.getfield 317, 3) := by decide +kernel
theorem dX12_ask_76 : decode cX12_ask 76 = .ok (.iload_n 3, 1) := by decide +kernel
theorem dX12_ask_77 : decode cX12_ask 77 = .ok (.iastore, 1) := by decide +kernel
theorem dX12_ask_78 : decode cX12_ask 78 = .ok (.aload_n 0, 1) := by decide +kernel
theorem dX12_ask_79 : decode cX12_ask 79 = .ok (.dup, 1) := by decide +kernel
theorem dX12_ask_80 : decode cX12_ask 80 = .ok (.getfield 317, 3) := by decide +kernel
theorem dX12_ask_83 : decode cX12_ask 83 = .ok (.iconst 1, 1) := by decide +kernel
theorem dX12_ask_84 : decode cX12_ask 84 = .ok (.iadd, 1) := by decide +kernel
theorem dX12_ask_85 : decode cX12_ask 85 = .ok (.putfield 317, 3) := by decide +kernel
theorem dX12_ask_88 : decode cX12_ask 88 = .ok (.aload_n 0, 1) := by decide +kernel
theorem dX12_ask_89 : decode cX12_ask 89 = .ok (.getfield 317, 3) := by decide +kernel
theorem dX12_ask_92 : decode cX12_ask 92 = .ok (.ireturn, 1) := by decide +kernel
theorem dX12_month_0 : decode cX12_month 0 = .ok (.aload_n 0, 1) := by decide +kernel
theorem dX12_month_1 : decode cX12_month 1 = .ok (.iconst 0, 1) := by decide +kernel
theorem dX12_month_2 : decode cX12_month 2 = .ok (.putfield 131, 3) := by decide +kernel
theorem dX12_month_5 : decode cX12_month 5 = .ok (.aload_n 0, 1) := by decide +kernel
theorem dX12_month_6 : decode cX12_month 6 = .ok (.iload_n 1, 1) := by decide +kernel
theorem dX12_month_7 : decode cX12_month 7 = .ok (.invokevirtual 390, 3) := by decide +kernel
theorem dX12_month_10 : decode cX12_month 10 = .ok (.ifCond .eq 13, 3) := by decide +kernel
theorem dX12_month_13 : decode cX12_month 13 = .ok (.iload_n 2, 1) := by decide +kernel
theorem dX12_month_14 : decode cX12_month 14 = .ok (.i2l, 1) := by decide +kernel
theorem dX12_month_15 : decode cX12_month 15 = .ok (.lconst 0, 1) := by decide +kernel
theorem dX12_month_16 : decode cX12_month 16 = .ok (.lconst 1, 1) := by decide +kernel
theorem dX12_month_17 : decode cX12_month 17 = .ok (.invokestatic 253, 3) := by decide +kernel
theorem dX12_month_20 : decode cX12_month 20 = .ok (.ifCond .ne 5, 3) := by decide +kernel
theorem dX12_month_23 : decode cX12_month 23 = .ok (.iconst (-1), 1) := by decide +kernel
theorem dX12_month_24 : decode cX12_month 24 = .ok (.ireturn, 1) := by decide +kernel
theorem dX12_month_25 : decode cX12_month 25 = .ok (.aload_n 0, 1) := by decide +kernel
theorem dX12_month_26 : decode cX12_month 26 = .ok (.invokevirtual 404, 3) := by decide +kernel
theorem dX12_month_29 : decode cX12_month 29 = .ok (.iconst (-1), 1) := by decide +kernel
theorem dX12_month_30 : decode cX12_month 30 = .ok (.istore_n 3, 1) := by decide +kernel
theorem dX12_month_31 : decode cX12_month 31 = .ok (.iconst (-1), 1) := by decide +kernel
theorem dX12_month_32 : decode cX12_month 32 = .ok (.istore 4, 2) := by decide +kernel
theorem dX12_month_34 : decode cX12_month 34 = .ok (.iconst 0, 1) := by decide +kernel
theorem dX12_month_35 : decode cX12_month 35 = .ok (.istore 5, 2) := by decide +kernel
theorem dX12_month_37 : decode cX12_month 37 = .ok (.iload 5, 2) := by decide +kernel
theorem dX12_month_39 : decode cX12_month 39 = .ok (.iload_n 1, 1) := by decide +kernel
theorem dX12_month_40 : decode cX12_month 40 = .ok (.if_icmp .ge 141, 3) := by decide +kernel
theorem dX12_month_43 : decode cX12_month 43 = .ok (.iload_n 3, 1) := by decide +kernel
theorem dX12_month_44 : decode cX12_month 44 = .ok (.iconst (-1), 1) := by decide +kernel
theorem dX12_month_45 : decode cX12_month 45 = .ok (.if_icmp .ne 136, 3) := by decide +kernel
theorem dX12_month_48 : decode cX12_month 48 = .ok (.iconst 0, 1) := by decide +kernel
theorem dX12_month_49 : decode cX12_month 49 = .ok (.istore 6, 2) := by decide +kernel
theorem dX12_month_51 : decode cX12_month 51 = .ok (.iload 6, 2) := by decide +kernel
theorem dX12_month_53 : decode cX12_month 53 = .ok (.iconst 5, 1) := by decide +kernel
theorem dX12_month_54 : decode cX12_month 54 = .ok (.if_icmp .ge 17, 3) := by decide +kernel
theorem dX12_month_57 : decode cX12_month 57 = .ok (.aload_n 0, 1) := by decide +kernel
theorem dX12_month_58 : decode cX12_month 58 = .ok (.getfield 64, 3) := by decide +kernel
theorem dX12_month_61 : decode cX12_month 61 = .ok (.iload 6, 2) := by decide +kernel
theorem dX12_month_63 : decode cX12_month 63 = .ok (.iconst (-1), 1) := by decide +kernel
theorem dX12_month_64 : decode cX12_month 64 = .ok (.iastore, 1) := by decide +kernel
theorem dX12_month_65 : decode cX12_month 65 = .ok (.iinc 6 1, 3) := by decide +kernel
theorem dX12_month_68 : decode cX12_month 68 = .ok (.goto (-17), 3) := by decide +kernel
theorem dX12_month_71 : decode cX12_month 71 = .ok (.iconst 0, 1) := by decide +kernel
theorem dX12_month_72 : decode cX12_month 72 = .ok (.istore 6, 2) := by decide +kernel
theorem dX12_month_74 : decode cX12_month 74 = .ok (.iload 6, 2) := by decide +kernel
theorem dX12_month_76 : decode cX12_month 76 = .ok (.aload_n 0, 1) := by decide +kernel
theorem dX12_month_77 : decode cX12_month 77 = .ok (.getfield 317, 3) := by decide +kernel
theorem dX12_month_80 : decode cX12_month 80 = .ok (.if_icmp .ge 40, 3) := by decide +kernel
theorem dX12_month_83 : decode cX12_month 83 = .ok (.aload_n 0, 1) := by decide +kernel
theorem dX12_month_84 : decode cX12_month 84 = .ok (.getfield 116, 3) := by decide +kernel
theorem dX12_month_87 : decode cX12_month 87 = .ok (.iload 6, 2) := by decide +kernel
theorem dX12_month_89 : decode cX12_month 89 = .ok (.iaload, 1) := by decide +kernel
theorem dX12_month_90 : decode cX12_month 90 = .ok (.iload 5, 2) := by decide +kernel
theorem dX12_month_92 : decode cX12_month 92 = .ok (.if_icmp .ne 22, 3) := by decide +kernel
theorem dX12_month_95 : decode cX12_month 95 = .ok (.aload_n 0, 1) := by decide +kernel
theorem dX12_month_96 : decode cX12_month 96 = .ok (.getfield 64, 3) := by decide +kernel
theorem dX12_month_99 : decode cX12_month 99 = .ok (.aload_n 0, 1) := by decide +kernel
theorem dX12_month_100 : decode cX12_month 100 = .ok (.getfield 113, 3) := by decide +kernel
theorem dX12_month_103 : decode cX12_month 103 = .ok (.iload 6, 2) := by decide +kernel
theorem dX12_month_105 : decode cX12_month 105 = .ok (.iaload, 1) := by decide +kernel
theorem dX12_month_106 : decode cX12_month 106 = .ok (.aload_n 0, 1) := by decide +kernel
theorem dX12_month_107 : decode cX12_month 107 = .ok (.getfield 119, 3) := by decide +kernel
theorem dX12_month_110 : decode cX12_month 110 = .ok (.iload 6, 2) := by decide +kernel
theorem dX12_month_112 : decode cX12_month 112 = .ok (.iaload, 1) := by decide +kernel
theorem dX12_month_113 : decode cX12_month 113 = .ok (.iastore, 1) := by decide +kernel
theorem dX12_month_114 : decode cX12_month 114 = .ok (.iinc 6 1, 3) := by decide +kernel
theorem dX12_month_117 : decode cX12_month 117 = .ok (.goto (-43), 3) := by decide +kernel
theorem dX12_month_120 : decode cX12_month 120 = .ok (.aload_n 0, 1) := by decide +kernel
theorem dX12_month_121 : decode cX12_month 121 = .ok (.getfield 55, 3) := by decide +kernel
theorem dX12_month_124 : decode cX12_month 124 = .ok (.bipush 54, 2) := by decide +kernel
theorem dX12_month_126 : decode cX12_month 126 = .ok (.iaload, 1) := by decide +kernel
theorem dX12_month_127 : decode cX12_month 127 = .ok (.istore 6, 2) := by decide +kernel
theorem dX12_month_129 : decode cX12_month 129 = .ok (.aload_n 0, 1) := by decide +kernel
theorem dX12_month_130 : decode cX12_month 130 = .ok (.iconst 0, 1) := by decide +kernel
theorem dX12_month_131 : decode cX12_month 131 = .ok (.invokevirtual 400, 3) := by decide +kernel
theorem dX12_month_134 : decode cX12_month 134 = .ok (.aload_n 0, 1) := by decide +kernel
theorem dX12_month_135 : decode cX12_month 135 = .ok (.getfield 305, 3) := by decide +kernel
theorem dX12_month_138 : decode cX12_month 138 = .ok (.iconst 1, 1) := by decide +kernel
theorem dX12_month_139 : decode cX12_month 139 = .ok (.isub, 1) := by decide +kernel
theorem dX12_month_140 : decode cX12_month 140 = .ok (.istore 7, 2) := by decide +kernel
theorem dX12_month_142 : decode cX12_month 142 = .ok (.iload 7, 2) := by decide +kernel
theorem dX12_month_144 : decode cX12_month 144 = .ok (.ifCond .lt 31, 3) := by decide +kernel
theorem dX12_month_147 : decode cX12_month 147 = .ok (.aload_n 0, 1) := by decide +kernel
theorem dX12_month_148 : decode cX12_month 148 = .ok (.getfield 67, 3) := by decide +kernel
theorem dX12_month_151 : decode cX12_month 151 = .ok (.iload 7, 2) := by decide +kernel
theorem dX12_month_153 : decode cX12_month 153 = .ok (.iaload, 1) := by decide +kernel
theorem dX12_month_154 : decode cX12_month 154 = .ok (.iload 6, 2) := by decide +kernel
theorem dX12_month_156 : decode cX12_month 156 = .ok (.if_icmp .gt 6, 3) := by decide +kernel
theorem dX12_month_159 : decode cX12_month 159 = .ok (.goto 10, 3) := by decide +kernel
theorem dX12_month_162 : decode cX12_month 162 = .ok (.iload 5, 2) := by decide +kernel
theorem dX12_month_164 : decode cX12_month 164 = .ok (.istore_n 3, 1) := by decide +kernel
theorem dX12_month_165 : decode cX12_month 165 = .ok (.iload 7, 2) := by decide +kernel
theorem dX12_month_167 : decode cX12_month 167 = .ok (.istore 4, 2) := by decide +kernel
theorem dX12_month_169 : decode cX12_month 169 = .ok (.iinc 7 (-1), 3) := by decide +kernel
theorem dX12_month_172 : decode cX12_month 172 = .ok (.goto (-30), 3) := by decide +kernel
theorem dX12_month_175 : decode cX12_month 175 = .ok (.iinc 5 1, 3) := by decide +kernel
theorem dX12_month_178 : decode cX12_month 178 = .ok (.goto (-141), 3) := by decide +kernel
theorem dX12_month_181 : decode cX12_month 181 = .ok (.aload_n 0, 1) := by decide +kernel
theorem dX12_month_182 : decode cX12_month 182 = .ok (.invokevirtual 410, 3) := by decide +kernel
theorem dX12_month_185 : decode cX12_month 185 = .ok (.aload_n 0, 1) := by decide +kernel
theorem dX12_month_186 : decode cX12_month 186 = .ok (.invokevirtual 393, 3) := by decide +kernel
theorem dX12_month_189 : decode cX12_month 189 = .ok (.iload_n 2, 1) := by decide +kernel
theorem dX12_month_190 : decode cX12_month 190 = .ok (.ifCond .ne 7, 3) := by decide +kernel
theorem dX12_month_193 : decode cX12_month 193 = .ok (.iload_n 3, 1) := by decide +kernel
theorem dX12_month_194 : decode cX12_month 194 = .ok (.goto 5, 3) := by decide +kernel
theorem dX12_month_197 : decode cX12_month 197 = .ok (.iload 4, 2) := by decide +kernel
theorem dX12_month_199 : decode cX12_month 199 = .ok (.ireturn, 1) := by decide +kernel
theorem dX12_inTurn_0 : decode cX12_inTurn 0 = .ok (.aload_n 0, 1) := by decide +kernel
theorem dX12_inTurn_1 : decode cX12_inTurn 1 = .ok (.iconst 0, 1) := by decide +kernel
theorem dX12_inTurn_2 : decode cX12_inTurn 2 = .ok (.putfield 131, 3) := by decide +kernel
theorem dX12_inTurn_5 : decode cX12_inTurn 5 = .ok (.aload_n 0, 1) := by decide +kernel
theorem dX12_inTurn_6 : decode cX12_inTurn 6 = .ok (.iload_n 1, 1) := by decide +kernel
theorem dX12_inTurn_7 : decode cX12_inTurn 7 = .ok (.invokevirtual 390, 3) := by decide +kernel
theorem dX12_inTurn_10 : decode cX12_inTurn 10 = .ok (.ifCond .eq 15, 3) := by decide +kernel
theorem dX12_inTurn_13 : decode cX12_inTurn 13 = .ok (.iload_n 2, 1) := by decide +kernel
theorem dX12_inTurn_14 : decode cX12_inTurn 14 = .ok (.i2l, 1) := by decide +kernel
theorem dX12_inTurn_15 : decode cX12_inTurn 15 = .ok (.lconst 0, 1) := by decide +kernel
theorem dX12_inTurn_16 : decode cX12_inTurn 16 = .ok (.ldc2_w 465, 3) := by decide +kernel
theorem dX12_inTurn_19 : decode cX12_inTurn 19 = .ok (.invokestatic 253, 3) := by decide +kernel
theorem dX12_inTurn_22 : decode cX12_inTurn 22 = .ok (.ifCond .ne 7, 3) := by decide +kernel
theorem dX12_inTurn_25 : decode cX12_inTurn 25 = .ok (.ldc_w 432, 3) := by decide +kernel
theorem dX12_inTurn_28 : decode cX12_inTurn 28 = .ok (.ireturn, 1) := by decide +kernel
theorem dX12_inTurn_29 : decode cX12_inTurn 29 = .ok (.aload_n 0, 1) := by decide +kernel
theorem dX12_inTurn_30 : decode cX12_inTurn 30 = .ok (.invokevirtual 404, 3) := by decide +kernel
theorem dX12_inTurn_33 : decode cX12_inTurn 33 = .ok (.iconst 0, 1) := by decide +kernel
theorem dX12_inTurn_34 : decode cX12_inTurn 34 = .ok (.istore_n 3, 1) := by decide +kernel
theorem dX12_inTurn_35 : decode cX12_inTurn 35 = .ok (.iload_n 3, 1) := by decide +kernel
theorem dX12_inTurn_36 : decode cX12_inTurn 36 = .ok (.iload_n 1, 1) := by decide +kernel
theorem dX12_inTurn_37 : decode cX12_inTurn 37 = .ok (.if_icmp .ge 26, 3) := by decide +kernel
theorem dX12_inTurn_40 : decode cX12_inTurn 40 = .ok (.aload_n 0, 1) := by decide +kernel
theorem dX12_inTurn_41 : decode cX12_inTurn 41 = .ok (.iconst 1, 1) := by decide +kernel
theorem dX12_inTurn_42 : decode cX12_inTurn 42 = .ok (.iload_n 3, 1) := by decide +kernel
theorem dX12_inTurn_43 : decode cX12_inTurn 43 = .ok (.aload_n 0, 1) := by decide +kernel
theorem dX12_inTurn_44 : decode cX12_inTurn 44 = .ok (.getfield 305, 3) := by decide +kernel
theorem dX12_inTurn_47 : decode cX12_inTurn 47 = .ok (.irem, 1) := by decide +kernel
theorem dX12_inTurn_48 : decode cX12_inTurn 48 = .ok (.ishl, 1) := by decide +kernel
theorem dX12_inTurn_49 : decode cX12_inTurn 49 = .ok (.putfield 342, 3) := by decide +kernel
theorem dX12_inTurn_52 : decode cX12_inTurn 52 = .ok (.aload_n 0, 1) := by decide +kernel
theorem dX12_inTurn_53 : decode cX12_inTurn 53 = .ok (.iconst 0, 1) := by decide +kernel
theorem dX12_inTurn_54 : decode cX12_inTurn 54 = .ok (.invokevirtual 400, 3) := by decide +kernel
theorem dX12_inTurn_57 : decode cX12_inTurn 57 = .ok (.iinc 3 1, 3) := by decide +kernel
theorem dX12_inTurn_60 : decode cX12_inTurn 60 = .ok (.goto (-25), 3) := by decide +kernel
theorem dX12_inTurn_63 : decode cX12_inTurn 63 = .ok (.aload_n 0, 1) := by decide +kernel
theorem dX12_inTurn_64 : decode cX12_inTurn 64 = .ok (.getfield 55, 3) := by decide +kernel
theorem dX12_inTurn_67 : decode cX12_inTurn 67 = .ok (.bipush 54, 2) := by decide +kernel
theorem dX12_inTurn_69 : decode cX12_inTurn 69 = .ok (.iaload, 1) := by decide +kernel
theorem dX12_inTurn_70 : decode cX12_inTurn 70 = .ok (.istore_n 3, 1) := by decide +kernel
theorem dX12_inTurn_71 : decode cX12_inTurn 71 = .ok (.iconst 0, 1) := by decide +kernel
theorem dX12_inTurn_72 : decode cX12_inTurn 72 = .ok (.istore 4, 2) := by decide +kernel
theorem dX12_inTurn_74 : decode cX12_inTurn 74 = .ok (.iconst 0, 1) := by decide +kernel
theorem dX12_inTurn_75 : decode cX12_inTurn 75 = .ok (.istore 5, 2) := by decide +kernel
theorem dX12_inTurn_77 : decode cX12_inTurn 77 = .ok (.iconst 0, 1) := by decide +kernel
theorem dX12_inTurn_78 : decode cX12_inTurn 78 = .ok (.istore 6, 2) := by decide +kernel
theorem dX12_inTurn_80 : decode cX12_inTurn 80 = .ok (.iload 6, 2) := by decide +kernel
theorem dX12_inTurn_82 : decode cX12_inTurn 82 = .ok (.aload_n 0, 1) := by decide +kernel
theorem dX12_inTurn_83 : decode cX12_inTurn 83 = .ok (.getfield 305, 3) := by decide +kernel
theorem dX12_inTurn_86 : decode cX12_inTurn 86 = .ok (.if_icmp .ge 89, 3) := by decide +kernel
theorem dX12_inTurn_89 : decode cX12_inTurn 89 = .ok (.iload 4, 2) := by decide +kernel
theorem dX12_inTurn_91 : decode cX12_inTurn 91 = .ok (.aload_n 0, 1) := by decide +kernel
theorem dX12_inTurn_92 : decode cX12_inTurn 92 = .ok (.getfield 55, 3) := by decide +kernel
theorem dX12_inTurn_95 : decode cX12_inTurn 95 = .ok (.bipush 12, 2) := by decide +kernel
theorem dX12_inTurn_97 : decode cX12_inTurn 97 = .ok (.iload 6, 2) := by decide +kernel
theorem dX12_inTurn_99 : decode cX12_inTurn 99 = .ok (.iadd, 1) := by decide +kernel
theorem dX12_inTurn_100 : decode cX12_inTurn 100 = .ok (.iaload, 1) := by decide +kernel
theorem dX12_inTurn_101 : decode cX12_inTurn 101 = .ok (.aload_n 0, 1) := by decide +kernel
theorem dX12_inTurn_102 : decode cX12_inTurn 102 = .ok (.getfield 58, 3) := by decide +kernel
theorem dX12_inTurn_105 : decode cX12_inTurn 105 = .ok (.bipush 12, 2) := by decide +kernel
theorem dX12_inTurn_107 : decode cX12_inTurn 107 = .ok (.iload 6, 2) := by decide +kernel
theorem dX12_inTurn_109 : decode cX12_inTurn 109 = .ok (.iadd, 1) := by decide +kernel
theorem dX12_inTurn_110 : decode cX12_inTurn 110 = .ok (.iaload, 1) := by decide +kernel
theorem dX12_inTurn_111 : decode cX12_inTurn 111 = .ok (.isub, 1) := by decide +kernel
theorem dX12_inTurn_112 : decode cX12_inTurn 112 = .ok (.iadd, 1) := by decide +kernel
theorem dX12_inTurn_113 : decode cX12_inTurn 113 = .ok (.istore 4, 2) := by decide +kernel
theorem dX12_inTurn_115 : decode cX12_inTurn 115 = .ok (.aload_n 0, 1) := by decide +kernel
theorem dX12_inTurn_116 : decode cX12_inTurn 116 = .ok (.getfield 55, 3) := by decide +kernel
theorem dX12_inTurn_119 : decode cX12_inTurn 119 = .ok (.bipush 12, 2) := by decide +kernel
theorem dX12_inTurn_121 : decode cX12_inTurn 121 = .ok (.iload 6, 2) := by decide +kernel
theorem dX12_inTurn_123 : decode cX12_inTurn 123 = .ok (.iadd, 1) := by decide +kernel
theorem dX12_inTurn_124 : decode cX12_inTurn 124 = .ok (.iaload, 1) := by decide +kernel
theorem dX12_inTurn_125 : decode cX12_inTurn 125 = .ok (.aload_n 0, 1) := by decide +kernel
theorem dX12_inTurn_126 : decode cX12_inTurn 126 = .ok (.getfield 58, 3) := by decide +kernel
theorem dX12_inTurn_129 : decode cX12_inTurn 129 = .ok (.bipush 12, 2) := by decide +kernel
theorem dX12_inTurn_131 : decode cX12_inTurn 131 = .ok (.iload 6, 2) := by decide +kernel
theorem dX12_inTurn_133 : decode cX12_inTurn 133 = .ok (.iadd, 1) := by decide +kernel
theorem dX12_inTurn_134 : decode cX12_inTurn 134 = .ok (.iaload, 1) := by decide +kernel
theorem dX12_inTurn_135 : decode cX12_inTurn 135 = .ok (.isub, 1) := by decide +kernel
theorem dX12_inTurn_136 : decode cX12_inTurn 136 = .ok (.aload_n 0, 1) := by decide +kernel
theorem dX12_inTurn_137 : decode cX12_inTurn 137 = .ok (.getfield 55, 3) := by decide +kernel
theorem dX12_inTurn_140 : decode cX12_inTurn 140 = .ok (.bipush 12, 2) := by decide +kernel
theorem dX12_inTurn_142 : decode cX12_inTurn 142 = .ok (.iload 5, 2) := by decide +kernel
theorem dX12_inTurn_144 : decode cX12_inTurn 144 = .ok (.iadd, 1) := by decide +kernel
theorem dX12_inTurn_145 : decode cX12_inTurn 145 = .ok (.iaload, 1) := by decide +kernel
theorem dX12_inTurn_146 : decode cX12_inTurn 146 = .ok (.aload_n 0, 1) := by decide +kernel
theorem dX12_inTurn_147 : decode cX12_inTurn 147 = .ok (.getfield 58, 3) := by decide +kernel
theorem dX12_inTurn_150 : decode cX12_inTurn 150 = .ok (.bipush 12, 2) := by decide +kernel
theorem dX12_inTurn_152 : decode cX12_inTurn 152 = .ok (.iload 5, 2) := by decide +kernel
theorem dX12_inTurn_154 : decode cX12_inTurn 154 = .ok (.iadd, 1) := by decide +kernel
theorem dX12_inTurn_155 : decode cX12_inTurn 155 = .ok (.iaload, 1) := by decide +kernel
theorem dX12_inTurn_156 : decode cX12_inTurn 156 = .ok (.isub, 1) := by decide +kernel
theorem dX12_inTurn_157 : decode cX12_inTurn 157 = .ok (.if_icmp .ge 8, 3) := by decide +kernel
theorem dX12_inTurn_160 : decode cX12_inTurn 160 = .ok (.iload 6, 2) := by decide +kernel
theorem dX12_inTurn_162 : decode cX12_inTurn 162 = .ok (.goto 5, 3) := by decide +kernel
theorem dX12_inTurn_165 : decode cX12_inTurn 165 = .ok (.iload 5, 2) := by decide +kernel
theorem dX12_inTurn_167 : decode cX12_inTurn 167 = .ok (.istore 5, 2) := by decide +kernel
theorem dX12_inTurn_169 : decode cX12_inTurn 169 = .ok (.iinc 6 1, 3) := by decide +kernel
theorem dX12_inTurn_172 : decode cX12_inTurn 172 = .ok (.goto (-92), 3) := by decide +kernel
theorem dX12_inTurn_175 : decode cX12_inTurn 175 = .ok (.aload_n 0, 1) := by decide +kernel
theorem dX12_inTurn_176 : decode cX12_inTurn 176 = .ok (.invokevirtual 410, 3) := by decide +kernel
theorem dX12_inTurn_179 : decode cX12_inTurn 179 = .ok (.iload_n 2, 1) := by decide +kernel
theorem dX12_inTurn_180 : decode cX12_inTurn 180 = .ok (.ifCond .ne 7, 3) := by decide +kernel
theorem dX12_inTurn_183 : decode cX12_inTurn 183 = .ok (.iload_n 3, 1) := by decide +kernel
theorem dX12_inTurn_184 : decode cX12_inTurn 184 = .ok (.goto 15, 3) := by decide +kernel
theorem dX12_inTurn_187 : decode cX12_inTurn 187 = .ok (.iload_n 2, 1) := by decide +kernel
theorem dX12_inTurn_188 : decode cX12_inTurn 188 = .ok (.iconst 1, 1) := by decide +kernel
theorem dX12_inTurn_189 : decode cX12_inTurn 189 = .ok (.if_icmp .ne 8, 3) := by decide +kernel
theorem dX12_inTurn_192 : decode cX12_inTurn 192 = .ok (.iload 4, 2) := by decide +kernel
theorem dX12_inTurn_194 : decode cX12_inTurn 194 = .ok (.goto 5, 3) := by decide +kernel
theorem dX12_inTurn_197 : decode cX12_inTurn 197 = .ok (.iload 5, 2) := by decide +kernel
theorem dX12_inTurn_199 : decode cX12_inTurn 199 = .ok (.ireturn, 1) := by decide +kernel
theorem dX12_bribe_0 : decode cX12_bribe 0 = .ok (.aload_n 0, 1) := by decide +kernel
theorem dX12_bribe_1 : decode cX12_bribe 1 = .ok (.iconst 0, 1) := by decide +kernel
theorem dX12_bribe_2 : decode cX12_bribe 2 = .ok (.putfield 131, 3) := by decide +kernel
theorem dX12_bribe_5 : decode cX12_bribe 5 = .ok (.aload_n 0, 1) := by decide +kernel
theorem dX12_bribe_6 : decode cX12_bribe 6 = .ok (.iload_n 1, 1) := by decide +kernel
theorem dX12_bribe_7 : decode cX12_bribe 7 = .ok (.invokevirtual 390, 3) := by decide +kernel
theorem dX12_bribe_10 : decode cX12_bribe 10 = .ok (.ifCond .eq 13, 3) := by decide +kernel
theorem dX12_bribe_13 : decode cX12_bribe 13 = .ok (.iload_n 2, 1) := by decide +kernel
theorem dX12_bribe_14 : decode cX12_bribe 14 = .ok (.i2l, 1) := by decide +kernel
theorem dX12_bribe_15 : decode cX12_bribe 15 = .ok (.lconst 0, 1) := by decide +kernel
theorem dX12_bribe_16 : decode cX12_bribe 16 = .ok (.lconst 1, 1) := by decide +kernel
theorem dX12_bribe_17 : decode cX12_bribe 17 = .ok (.invokestatic 253, 3) := by decide +kernel
theorem dX12_bribe_20 : decode cX12_bribe 20 = .ok (.ifCond .ne 7, 3) := by decide +kernel
theorem dX12_bribe_23 : decode cX12_bribe 23 = .ok (.ldc_w 432, 3) := by decide +kernel
theorem dX12_bribe_26 : decode cX12_bribe 26 = .ok (.ireturn, 1) := by decide +kernel
theorem dX12_bribe_27 : decode cX12_bribe 27 = .ok (.aload_n 0, 1) := by decide +kernel
theorem dX12_bribe_28 : decode cX12_bribe 28 = .ok (.invokevirtual 404, 3) := by decide +kernel
theorem dX12_bribe_31 : decode cX12_bribe 31 = .ok (.iconst (-1), 1) := by decide +kernel
theorem dX12_bribe_32 : decode cX12_bribe 32 = .ok (.istore_n 3, 1) := by decide +kernel
theorem dX12_bribe_33 : decode cX12_bribe 33 = .ok (.iconst 0, 1) := by decide +kernel
theorem dX12_bribe_34 : decode cX12_bribe 34 = .ok (.istore 4, 2) := by decide +kernel
theorem dX12_bribe_36 : decode cX12_bribe 36 = .ok (.iconst 0, 1) := by decide +kernel
theorem dX12_bribe_37 : decode cX12_bribe 37 = .ok (.istore 5, 2) := by decide +kernel
theorem dX12_bribe_39 : decode cX12_bribe 39 = .ok (.iload 5, 2) := by decide +kernel
theorem dX12_bribe_41 : decode cX12_bribe 41 = .ok (.aload_n 0, 1) := by decide +kernel
theorem dX12_bribe_42 : decode cX12_bribe 42 = .ok (.getfield 305, 3) := by decide +kernel
theorem dX12_bribe_45 : decode cX12_bribe 45 = .ok (.if_icmp .ge 78, 3) := by decide +kernel
theorem dX12_bribe_48 : decode cX12_bribe 48 = .ok (.aload_n 0, 1) := by decide +kernel
theorem dX12_bribe_49 : decode cX12_bribe 49 = .ok (.getfield 311, 3) := by decide +kernel
theorem dX12_bribe_52 : decode cX12_bribe 52 = .ok (.iload 5, 2) := by decide +kernel
theorem dX12_bribe_54 : decode cX12_bribe 54 = .ok (.invokestatic 280, 3) := by decide +kernel
theorem dX12_bribe_57 : decode cX12_bribe 57 = .ok (.ifCond .eq 6, 3) := by decide +kernel
theorem dX12_bribe_60 : decode cX12_bribe 60 = .ok (.goto 57, 3) := by decide +kernel
theorem dX12_bribe_63 : decode cX12_bribe 63 = .ok (.aload_n 0, 1) := by decide +kernel
theorem dX12_bribe_64 : decode cX12_bribe 64 = .ok (.aload_n 0, 1) := by decide +kernel
theorem dX12_bribe_65 : decode cX12_bribe 65 = .ok (.getfield 311, 3) := by decide +kernel
theorem dX12_bribe_68 : decode cX12_bribe 68 = .ok (.iload_n 1, 1) := by decide +kernel
theorem dX12_bribe_69 : decode cX12_bribe 69 = .ok (.iload 5, 2) := by decide +kernel
theorem dX12_bribe_71 : decode cX12_bribe 71 = .ok (.iconst 0, 1) := by decide +kernel
theorem dX12_bribe_72 : decode cX12_bribe 72 = .ok (.invokevirtual 452, 3) := by decide +kernel
theorem dX12_bribe_75 : decode cX12_bribe 75 = .ok (.aload_n 0, 1) := by decide +kernel
theorem dX12_bribe_76 : decode cX12_bribe 76 = .ok (.aload_n 0, 1) := by decide +kernel
theorem dX12_bribe_77 : decode cX12_bribe 77 = .ok (.getfield 311, 3) := by decide +kernel
theorem dX12_bribe_80 : decode cX12_bribe 80 = .ok (.iconst 1, 1) := by decide +kernel
theorem dX12_bribe_81 : decode cX12_bribe 81 = .ok (.iload 5, 2) := by decide +kernel
theorem dX12_bribe_83 : decode cX12_bribe 83 = .ok (.ishl, 1) := by decide +kernel
theorem dX12_bribe_84 : decode cX12_bribe 84 = .ok (.ior, 1) := by decide +kernel
theorem dX12_bribe_85 : decode cX12_bribe 85 = .ok (.iload_n 1, 1) := by decide +kernel
theorem dX12_bribe_86 : decode cX12_bribe 86 = .ok (.iload 5, 2) := by decide +kernel
theorem dX12_bribe_88 : decode cX12_bribe 88 = .ok (.iconst 0, 1) := by decide +kernel
theorem dX12_bribe_89 : decode cX12_bribe 89 = .ok (.invokevirtual 452, 3) := by decide +kernel
theorem dX12_bribe_92 : decode cX12_bribe 92 = .ok (.isub, 1) := by decide +kernel
theorem dX12_bribe_93 : decode cX12_bribe 93 = .ok (.istore 6, 2) := by decide +kernel
theorem dX12_bribe_95 : decode cX12_bribe 95 = .ok (.iload_n 3, 1) := by decide +kernel
theorem dX12_bribe_96 : decode cX12_bribe 96 = .ok (.iconst (-1), 1) := by decide +kernel
theorem dX12_bribe_97 : decode cX12_bribe 97 = .ok (.if_icmp .eq 13, 3) := by decide +kernel
theorem dX12_bribe_100 : decode cX12_bribe 100 = .ok (.iload 6, 2) := by decide +kernel
theorem dX12_bribe_102 : decode cX12_bribe 102 = .ok (.iload 4, 2) := by decide +kernel
theorem dX12_bribe_104 : decode cX12_bribe 104 = .ok (.if_icmp .lt 6, 3) := by decide +kernel
theorem dX12_bribe_107 : decode cX12_bribe 107 = .ok (.goto 10, 3) := by decide +kernel
theorem dX12_bribe_110 : decode cX12_bribe 110 = .ok (.iload 5, 2) := by decide +kernel
theorem dX12_bribe_112 : decode cX12_bribe 112 = .ok (.istore_n 3, 1) := by decide +kernel
theorem dX12_bribe_113 : decode cX12_bribe 113 = .ok (.iload 6, 2) := by decide +kernel
theorem dX12_bribe_115 : decode cX12_bribe 115 = .ok (.istore 4, 2) := by decide +kernel
theorem dX12_bribe_117 : decode cX12_bribe 117 = .ok (.iinc 5 1, 3) := by decide +kernel
theorem dX12_bribe_120 : decode cX12_bribe 120 = .ok (.goto (-81), 3) := by decide +kernel
theorem dX12_bribe_123 : decode cX12_bribe 123 = .ok (.iload_n 2, 1) := by decide +kernel
theorem dX12_bribe_124 : decode cX12_bribe 124 = .ok (.ifCond .ne 7, 3) := by decide +kernel
theorem dX12_bribe_127 : decode cX12_bribe 127 = .ok (.iload_n 3, 1) := by decide +kernel
theorem dX12_bribe_128 : decode cX12_bribe 128 = .ok (.goto 16, 3) := by decide +kernel
theorem dX12_bribe_131 : decode cX12_bribe 131 = .ok (.iload_n 3, 1) := by decide +kernel
theorem dX12_bribe_132 : decode cX12_bribe 132 = .ok (.iconst (-1), 1) := by decide +kernel
theorem dX12_bribe_133 : decode cX12_bribe 133 = .ok (.if_icmp .ne 9, 3) := by decide +kernel
theorem dX12_bribe_136 : decode cX12_bribe 136 = .ok (.ldc_w 432, 3) := by decide +kernel
theorem dX12_bribe_139 : decode cX12_bribe 139 = .ok (.goto 5, 3) := by decide +kernel
theorem dX12_bribe_142 : decode cX12_bribe 142 = .ok (.iload 4, 2) := by decide +kernel
theorem dX12_bribe_144 : decode cX12_bribe 144 = .ok (.ireturn, 1) := by decide +kernel
theorem dX12_spread_0 : decode cX12_spread 0 = .ok (.aload_n 0, 1) := by decide +kernel
theorem dX12_spread_1 : decode cX12_spread 1 = .ok (.iconst 0, 1) := by decide +kernel
theorem dX12_spread_2 : decode cX12_spread 2 = .ok (.putfield 131, 3) := by decide +kernel
theorem dX12_spread_5 : decode cX12_spread 5 = .ok (.aload_n 0, 1) := by decide +kernel
theorem dX12_spread_6 : decode cX12_spread 6 = .ok (.iload_n 1, 1) := by decide +kernel
theorem dX12_spread_7 : decode cX12_spread 7 = .ok (.invokevirtual 390, 3) := by decide +kernel
theorem dX12_spread_10 : decode cX12_spread 10 = .ok (.ifCond .eq 13, 3) := by decide +kernel
theorem dX12_spread_13 : decode cX12_spread 13 = .ok (.iload_n 2, 1) := by decide +kernel
theorem dX12_spread_14 : decode cX12_spread 14 = .ok (.i2l, 1) := by decide +kernel
theorem dX12_spread_15 : decode cX12_spread 15 = .ok (.lconst 0, 1) := by decide +kernel
theorem dX12_spread_16 : decode cX12_spread 16 = .ok (.lconst 1, 1) := by decide +kernel
theorem dX12_spread_17 : decode cX12_spread 17 = .ok (.invokestatic 253, 3) := by decide +kernel
theorem dX12_spread_20 : decode cX12_spread 20 = .ok (.ifCond .ne 5, 3) := by decide +kernel
theorem dX12_spread_23 : decode cX12_spread 23 = .ok (.iconst (-1), 1) := by decide +kernel
theorem dX12_spread_24 : decode cX12_spread 24 = .ok (.ireturn, 1) := by decide +kernel
theorem dX12_spread_25 : decode cX12_spread 25 = .ok (.aload_n 0, 1) := by decide +kernel
theorem dX12_spread_26 : decode cX12_spread 26 = .ok (.invokevirtual 404, 3) := by decide +kernel
theorem dX12_spread_29 : decode cX12_spread 29 = .ok (.aload_n 0, 1) := by decide +kernel
theorem dX12_spread_30 : decode cX12_spread 30 = .ok (.iload_n 1, 1) := by decide +kernel
theorem dX12_spread_31 : decode cX12_spread 31 = .ok (.invokevirtual 407, 3) := by decide +kernel
theorem dX12_spread_34 : decode cX12_spread 34 = .ok (.aload_n 0, 1) := by decide +kernel
theorem dX12_spread_35 : decode cX12_spread 35 = .ok (.invokevirtual 410, 3) := by decide +kernel
theorem dX12_spread_38 : decode cX12_spread 38 = .ok (.aload_n 0, 1) := by decide +kernel
theorem dX12_spread_39 : decode cX12_spread 39 = .ok (.getfield 88, 3) := by decide +kernel
theorem dX12_spread_42 : decode cX12_spread 42 = .ok (.iconst 0, 1) := by decide +kernel
theorem dX12_spread_43 : decode cX12_spread 43 = .ok (.iaload, 1) := by decide +kernel
theorem dX12_spread_44 : decode cX12_spread 44 = .ok (.istore_n 3, 1) := by decide +kernel
theorem dX12_spread_45 : decode cX12_spread 45 = .ok (.aload_n 0, 1) := by decide +kernel
theorem dX12_spread_46 : decode cX12_spread 46 = .ok (.getfield 88, 3) := by decide +kernel
theorem dX12_spread_49 : decode cX12_spread 49 = .ok (.iconst 0, 1) := by decide +kernel
theorem dX12_spread_50 : decode cX12_spread 50 = .ok (.iaload, 1) := by decide +kernel
theorem dX12_spread_51 : decode cX12_spread 51 = .ok (.istore 4, 2) := by decide +kernel
theorem dX12_spread_53 : decode cX12_spread 53 = .ok (.iconst 0, 1) := by decide +kernel
theorem dX12_spread_54 : decode cX12_spread 54 = .ok (.istore 5, 2) := by decide +kernel
theorem dX12_spread_56 : decode cX12_spread 56 = .ok (.iconst 1, 1) := by decide +kernel
theorem dX12_spread_57 : decode cX12_spread 57 = .ok (.istore 6, 2) := by decide +kernel
theorem dX12_spread_59 : decode cX12_spread 59 = .ok (.iload 6, 2) := by decide +kernel
theorem dX12_spread_61 : decode cX12_spread 61 = .ok (.iload_n 1, 1) := by decide +kernel
theorem dX12_spread_62 : decode cX12_spread 62 = .ok (.if_icmp .gt 47, 3) := by decide +kernel
theorem dX12_spread_65 : decode cX12_spread 65 = .ok (.iload_n 3, 1) := by decide +kernel
theorem dX12_spread_66 : decode cX12_spread 66 = .ok (.aload_n 0, 1) := by decide +kernel
theorem dX12_spread_67 : decode cX12_spread 67 = .ok (.getfield 88, 3) := by decide +kernel
theorem dX12_spread_70 : decode cX12_spread 70 = .ok (.iload 6, 2) := by decide +kernel
theorem dX12_spread_72 : decode cX12_spread 72 = .ok (.iaload, 1) := by decide +kernel
theorem dX12_spread_73 : decode cX12_spread 73 = .ok (.invokestatic 345, 3) := by decide +kernel
theorem dX12_spread_76 : decode cX12_spread 76 = .ok (.istore_n 3, 1) := by decide +kernel
theorem dX12_spread_77 : decode cX12_spread 77 = .ok (.iload 4, 2) := by decide +kernel
theorem dX12_spread_79 : decode cX12_spread 79 = .ok (.aload_n 0, 1) := by decide +kernel
theorem dX12_spread_80 : decode cX12_spread 80 = .ok (.getfield 88, 3) := by decide +kernel
theorem dX12_spread_83 : decode cX12_spread 83 = .ok (.iload 6, 2) := by decide +kernel
theorem dX12_spread_85 : decode cX12_spread 85 = .ok (.iaload, 1) := by decide +kernel
theorem dX12_spread_86 : decode cX12_spread 86 = .ok (.invokestatic 347, 3) := by decide +kernel
theorem dX12_spread_89 : decode cX12_spread 89 = .ok (.istore 4, 2) := by decide +kernel
theorem dX12_spread_91 : decode cX12_spread 91 = .ok (.iload 5, 2) := by decide +kernel
theorem dX12_spread_93 : decode cX12_spread 93 = .ok (.aload_n 0, 1) := by decide +kernel
theorem dX12_spread_94 : decode cX12_spread 94 = .ok (.getfield 88, 3) := by decide +kernel
theorem dX12_spread_97 : decode cX12_spread 97 = .ok (.iload 6, 2) := by decide +kernel
theorem dX12_spread_99 : decode cX12_spread 99 = .ok (.iaload, 1) := by decide +kernel
theorem dX12_spread_100 : decode cX12_spread 100 = .ok (.iadd, 1) := by decide +kernel
theorem dX12_spread_101 : decode cX12_spread 101 = .ok (.istore 5, 2) := by decide +kernel
theorem dX12_spread_103 : decode cX12_spread 103 = .ok (.iinc 6 1, 3) := by decide +kernel
theorem dX12_spread_106 : decode cX12_spread 106 = .ok (.goto (-47), 3) := by decide +kernel
theorem dX12_spread_109 : decode cX12_spread 109 = .ok (.iload_n 2, 1) := by decide +kernel
theorem dX12_spread_110 : decode cX12_spread 110 = .ok (.ifCond .ne 10, 3) := by decide +kernel
theorem dX12_spread_113 : decode cX12_spread 113 = .ok (.iload 4, 2) := by decide +kernel
theorem dX12_spread_115 : decode cX12_spread 115 = .ok (.iload_n 3, 1) := by decide +kernel
theorem dX12_spread_116 : decode cX12_spread 116 = .ok (.isub, 1) := by decide +kernel
theorem dX12_spread_117 : decode cX12_spread 117 = .ok (.goto 5, 3) := by decide +kernel
theorem dX12_spread_120 : decode cX12_spread 120 = .ok (.iload 5, 2) := by decide +kernel
theorem dX12_spread_122 : decode cX12_spread 122 = .ok (.ireturn, 1) := by decide +kernel
theorem dX12_served_0 : decode cX12_served 0 = .ok (.aload_n 0, 1) := by decide +kernel
theorem dX12_served_1 : decode cX12_served 1 = .ok (.iconst 0, 1) := by decide +kernel
theorem dX12_served_2 : decode cX12_served 2 = .ok (.putfield 131, 3) := by decide +kernel
theorem dX12_served_5 : decode cX12_served 5 = .ok (.aload_n 0, 1) := by decide +kernel
theorem dX12_served_6 : decode cX12_served 6 = .ok (.iload_n 2, 1) := by decide +kernel
theorem dX12_served_7 : decode cX12_served 7 = .ok (.invokevirtual 390, 3) := by decide +kernel
theorem dX12_served_10 : decode cX12_served 10 = .ok (.ifCond .eq 29, 3) := by decide +kernel
theorem dX12_served_13 : decode cX12_served 13 = .ok (.iload_n 1, 1) := by decide +kernel
theorem dX12_served_14 : decode cX12_served 14 = .ok (.i2l, 1) := by decide +kernel
theorem dX12_served_15 : decode cX12_served 15 = .ok (.lconst 0, 1) := by decide +kernel
theorem dX12_served_16 : decode cX12_served 16 = .ok (.aload_n 0, 1) := by decide +kernel
theorem dX12_served_17 : decode cX12_served 17 = .ok (.getfield 308, 3) := by decide +kernel
theorem dX12_served_20 : decode cX12_served 20 = .ok (.iconst 1, 1) := by decide +kernel
theorem dX12_served_21 : decode cX12_served 21 = .ok (.isub, 1) := by decide +kernel
theorem dX12_served_22 : decode cX12_served 22 = .ok (.i2l, 1) := by decide +kernel
theorem dX12_served_23 : decode cX12_served 23 = .ok (.invokestatic 253, 3) := by decide +kernel
theorem dX12_served_26 : decode cX12_served 26 = .ok (.ifCond .eq 13, 3) := by decide +kernel
theorem dX12_served_29 : decode cX12_served 29 = .ok (.iload_n 3, 1) := by decide +kernel
theorem dX12_served_30 : decode cX12_served 30 = .ok (.i2l, 1) := by decide +kernel
theorem dX12_served_31 : decode cX12_served 31 = .ok (.lconst 0, 1) := by decide +kernel
theorem dX12_served_32 : decode cX12_served 32 = .ok (.lconst 1, 1) := by decide +kernel
theorem dX12_served_33 : decode cX12_served 33 = .ok (.invokestatic 253, 3) := by decide +kernel
theorem dX12_served_36 : decode cX12_served 36 = .ok (.ifCond .ne 5, 3) := by decide +kernel
theorem dX12_served_39 : decode cX12_served 39 = .ok (.iconst (-1), 1) := by decide +kernel
theorem dX12_served_40 : decode cX12_served 40 = .ok (.ireturn, 1) := by decide +kernel
theorem dX12_served_41 : decode cX12_served 41 = .ok (.aload_n 0, 1) := by decide +kernel
theorem dX12_served_42 : decode cX12_served 42 = .ok (.invokevirtual 404, 3) := by decide +kernel
theorem dX12_served_45 : decode cX12_served 45 = .ok (.aload_n 0, 1) := by decide +kernel
theorem dX12_served_46 : decode cX12_served 46 = .ok (.getfield 82, 3) := by decide +kernel
theorem dX12_served_49 : decode cX12_served 49 = .ok (.iload_n 1, 1) := by decide +kernel
theorem dX12_served_50 : decode cX12_served 50 = .ok (.iconst 0, 1) := by decide +kernel
theorem dX12_served_51 : decode cX12_served 51 = .ok (.iastore, 1) := by decide +kernel
theorem dX12_served_52 : decode cX12_served 52 = .ok (.aload_n 0, 1) := by decide +kernel
theorem dX12_served_53 : decode cX12_served 53 = .ok (.getfield 85, 3) := by decide +kernel
theorem dX12_served_56 : decode cX12_served 56 = .ok (.iload_n 1, 1) := by decide +kernel
theorem dX12_served_57 : decode cX12_served 57 = .ok (.iconst 0, 1) := by decide +kernel
theorem dX12_served_58 : decode cX12_served 58 = .ok (.iastore, 1) := by decide +kernel
theorem dX12_served_59 : decode cX12_served 59 = .ok (.aload_n 0, 1) := by decide +kernel
theorem dX12_served_60 : decode cX12_served 60 = .ok (.iload_n 2, 1) := by decide +kernel
theorem dX12_served_61 : decode cX12_served 61 = .ok (.invokevirtual 407, 3) := by decide +kernel
theorem dX12_served_64 : decode cX12_served 64 = .ok (.aload_n 0, 1) := by decide +kernel
theorem dX12_served_65 : decode cX12_served 65 = .ok (.invokevirtual 410, 3) := by decide +kernel
theorem dX12_served_68 : decode cX12_served 68 = .ok (.iload_n 3, 1) := by decide +kernel
theorem dX12_served_69 : decode cX12_served 69 = .ok (.ifCond .ne 12, 3) := by decide +kernel
theorem dX12_served_72 : decode cX12_served 72 = .ok (.aload_n 0, 1) := by decide +kernel
theorem dX12_served_73 : decode cX12_served 73 = .ok (.getfield 82, 3) := by decide +kernel
theorem dX12_served_76 : decode cX12_served 76 = .ok (.iload_n 1, 1) := by decide +kernel
theorem dX12_served_77 : decode cX12_served 77 = .ok (.iaload, 1) := by decide +kernel
theorem dX12_served_78 : decode cX12_served 78 = .ok (.goto 9, 3) := by decide +kernel
theorem dX12_served_81 : decode cX12_served 81 = .ok (.aload_n 0, 1) := by decide +kernel
theorem dX12_served_82 : decode cX12_served 82 = .ok (.getfield 85, 3) := by decide +kernel
theorem dX12_served_85 : decode cX12_served 85 = .ok (.iload_n 1, 1) := by decide +kernel
theorem dX12_served_86 : decode cX12_served 86 = .ok (.iaload, 1) := by decide +kernel
theorem dX12_served_87 : decode cX12_served 87 = .ok (.ireturn, 1) := by decide +kernel
theorem dX12_goOdds_0 : decode cX12_goOdds 0 = .ok (.iload_n 2, 1) := by decide +kernel
theorem dX12_goOdds_1 : decode cX12_goOdds 1 = .ok (.ifCond .ne 4, 3) := by decide +kernel
theorem dX12_goOdds_4 : decode cX12_goOdds 4 = .ok (.return_, 1) := by decide +kernel
theorem dX12_goOdds_5 : decode cX12_goOdds 5 = .ok (.iload_n 1, 1) := by decide +kernel
theorem dX12_goOdds_6 : decode cX12_goOdds 6 = .ok (.ifCond .ne 29, 3) := by decide +kernel
theorem dX12_goOdds_9 : decode cX12_goOdds 9 = .ok (.aload_n 0, 1) := by decide +kernel
theorem dX12_goOdds_10 : decode cX12_goOdds 10 = .ok (.dup, 1) := by decide +kernel
theorem dX12_goOdds_11 : decode cX12_goOdds 11 = .ok (.getfield 472, 3) := by decide +kernel
theorem dX12_goOdds_14 : decode cX12_goOdds 14 = .ok (.aload_n 0, 1) := by decide +kernel
theorem dX12_goOdds_15 : decode cX12_goOdds 15 = .ok (.getfield 55, 3) := by decide +kernel
theorem dX12_goOdds_18 : decode cX12_goOdds 18 = .ok (.bipush 54, 2) := by decide +kernel
theorem dX12_goOdds_20 : decode cX12_goOdds 20 = .ok (.iaload, 1) := by decide +kernel
theorem dX12_goOdds_21 : decode cX12_goOdds 21 = .ok (.iload_n 3, 1) := by decide +kernel
theorem dX12_goOdds_22 : decode cX12_goOdds 22 = .ok (.if_icmp .lt 7, 3) := by decide +kernel
theorem dX12_goOdds_25 : decode cX12_goOdds 25 = .ok (.iload_n 2, 1) := by decide +kernel
theorem dX12_goOdds_26 : decode cX12_goOdds 26 = .ok (.goto 4, 3) := by decide +kernel
theorem dX12_goOdds_29 : decode cX12_goOdds 29 = .ok (.iconst 0, 1) := by decide +kernel
theorem dX12_goOdds_30 : decode cX12_goOdds 30 = .ok (.iadd, 1) := by decide +kernel
theorem dX12_goOdds_31 : decode cX12_goOdds 31 = .ok (.putfield 472, 3) := by decide +kernel
theorem dX12_goOdds_34 : decode cX12_goOdds 34 = .ok (.return_, 1) := by decide +kernel
theorem dX12_goOdds_35 : decode cX12_goOdds 35 = .ok (.iconst 0, 1) := by decide +kernel
theorem dX12_goOdds_36 : decode cX12_goOdds 36 = .ok (.istore 4, 2) := by decide +kernel
theorem dX12_goOdds_38 : decode cX12_goOdds 38 = .ok (.iload 4, 2) := by decide +kernel
theorem dX12_goOdds_40 : decode cX12_goOdds 40 = .ok (.bipush 57, 2) := by decide +kernel
theorem dX12_goOdds_42 : decode cX12_goOdds 42 = .ok (.if_icmp .ge 28, 3) := by decide +kernel
theorem dX12_goOdds_45 : decode cX12_goOdds 45 = .ok (.aload_n 0, 1) := by decide +kernel
theorem dX12_goOdds_46 : decode cX12_goOdds 46 = .ok (.getfield 122, 3) := by decide +kernel
theorem dX12_goOdds_49 : decode cX12_goOdds 49 = .ok (.bipush 57, 2) := by decide +kernel
theorem dX12_goOdds_51 : decode cX12_goOdds 51 = .ok (.iload_n 1, 1) := by decide +kernel
theorem dX12_goOdds_52 : decode cX12_goOdds 52 = .ok (.imul, 1) := by decide +kernel
theorem dX12_goOdds_53 : decode cX12_goOdds 53 = .ok (.iload 4, 2) := by decide +kernel
theorem dX12_goOdds_55 : decode cX12_goOdds 55 = .ok (.iadd, 1) := by decide +kernel
theorem dX12_goOdds_56 : decode cX12_goOdds 56 = .ok (.aload_n 0, 1) := by decide +kernel
theorem dX12_goOdds_57 : decode cX12_goOdds 57 = .ok (.getfield 55, 3) := by decide +kernel
theorem dX12_goOdds_60 : decode cX12_goOdds 60 = .ok (.iload 4, 2) := by decide +kernel
theorem dX12_goOdds_62 : decode cX12_goOdds 62 = .ok (.iaload, 1) := by decide +kernel
theorem dX12_goOdds_63 : decode cX12_goOdds 63 = .ok (.iastore, 1) := by decide +kernel
theorem dX12_goOdds_64 : decode cX12_goOdds 64 = .ok (.iinc 4 1, 3) := by decide +kernel
theorem dX12_goOdds_67 : decode cX12_goOdds 67 = .ok (.goto (-29), 3) := by decide +kernel
theorem dX12_goOdds_70 : decode cX12_goOdds 70 = .ok (.iload_n 2, 1) := by decide +kernel
theorem dX12_goOdds_71 : decode cX12_goOdds 71 = .ok (.i2l, 1) := by decide +kernel
theorem dX12_goOdds_72 : decode cX12_goOdds 72 = .ok (.aload_n 0, 1) := by decide +kernel
theorem dX12_goOdds_73 : decode cX12_goOdds 73 = .ok (.getfield 335, 3) := by decide +kernel
theorem dX12_goOdds_76 : decode cX12_goOdds 76 = .ok (.i2l, 1) := by decide +kernel
theorem dX12_goOdds_77 : decode cX12_goOdds 77 = .ok (.lmul, 1) := by decide +kernel
theorem dX12_goOdds_78 : decode cX12_goOdds 78 = .ok (.ldc2_w 333, 3) := by decide +kernel
theorem dX12_goOdds_81 : decode cX12_goOdds 81 = .ok (.ldiv, 1) := by decide +kernel
theorem dX12_goOdds_82 : decode cX12_goOdds 82 = .ok (.l2i, 1) := by decide +kernel
theorem dX12_goOdds_83 : decode cX12_goOdds 83 = .ok (.istore 4, 2) := by decide +kernel
theorem dX12_goOdds_85 : decode cX12_goOdds 85 = .ok (.iconst 0, 1) := by decide +kernel
theorem dX12_goOdds_86 : decode cX12_goOdds 86 = .ok (.istore 5, 2) := by decide +kernel
theorem dX12_goOdds_88 : decode cX12_goOdds 88 = .ok (.iload 5, 2) := by decide +kernel
theorem dX12_goOdds_90 : decode cX12_goOdds 90 = .ok (.iconst 2, 1) := by decide +kernel
theorem dX12_goOdds_91 : decode cX12_goOdds 91 = .ok (.if_icmp .ge 80, 3) := by decide +kernel
theorem dX12_goOdds_94 : decode cX12_goOdds 94 = .ok (.aload_n 0, 1) := by decide +kernel
theorem dX12_goOdds_95 : decode cX12_goOdds 95 = .ok (.iload 5, 2) := by decide +kernel
theorem dX12_goOdds_97 : decode cX12_goOdds 97 = .ok (.ifCond .ne 7, 3) := by decide +kernel
theorem dX12_goOdds_100 : decode cX12_goOdds 100 = .ok (.iconst 1, 1) := by decide +kernel
theorem dX12_goOdds_101 : decode cX12_goOdds 101 = .ok (.goto 4, 3) := by decide +kernel
theorem dX12_goOdds_104 : decode cX12_goOdds 104 = .ok (.iconst 0, 1) := by decide +kernel
theorem dX12_goOdds_105 : decode cX12_goOdds 105 = .ok (.invokevirtual 400, 3) := by decide +kernel
theorem dX12_goOdds_108 : decode cX12_goOdds 108 = .ok (.aload_n 0, 1) := by decide +kernel
theorem dX12_goOdds_109 : decode cX12_goOdds 109 = .ok (.iload_n 1, 1) := by decide +kernel
theorem dX12_goOdds_110 : decode cX12_goOdds 110 = .ok (.iconst 1, 1) := by decide +kernel
theorem dX12_goOdds_111 : decode cX12_goOdds 111 = .ok (.isub, 1) := by decide +kernel
theorem dX12_goOdds_112 : decode cX12_goOdds 112 = .ok (.iload 5, 2) := by decide +kernel
theorem dX12_goOdds_114 : decode cX12_goOdds 114 = .ok (.ifCond .ne 8, 3) := by decide +kernel
theorem dX12_goOdds_117 : decode cX12_goOdds 117 = .ok (.iload 4, 2) := by decide +kernel
theorem dX12_goOdds_119 : decode cX12_goOdds 119 = .ok (.goto 7, 3) := by decide +kernel
theorem dX12_goOdds_122 : decode cX12_goOdds 122 = .ok (.iload_n 2, 1) := by decide +kernel
theorem dX12_goOdds_123 : decode cX12_goOdds 123 = .ok (.iload 4, 2) := by decide +kernel
theorem dX12_goOdds_125 : decode cX12_goOdds 125 = .ok (.isub, 1) := by decide +kernel
theorem dX12_goOdds_126 : decode cX12_goOdds 126 = .ok (.iload_n 3, 1) := by decide +kernel
theorem dX12_goOdds_127 : decode cX12_goOdds 127 = .ok (.invokevirtual 475, 3) := by decide +kernel
theorem dX12_goOdds_130 : decode cX12_goOdds 130 = .ok (.iconst 0, 1) := by decide +kernel
theorem dX12_goOdds_131 : decode cX12_goOdds 131 = .ok (.istore 6, 2) := by decide +kernel
theorem dX12_goOdds_133 : decode cX12_goOdds 133 = .ok (.iload 6, 2) := by decide +kernel
theorem dX12_goOdds_135 : decode cX12_goOdds 135 = .ok (.bipush 57, 2) := by decide +kernel
theorem dX12_goOdds_137 : decode cX12_goOdds 137 = .ok (.if_icmp .ge 28, 3) := by decide +kernel
theorem dX12_goOdds_140 : decode cX12_goOdds 140 = .ok (.aload_n 0, 1) := by decide +kernel
theorem dX12_goOdds_141 : decode cX12_goOdds 141 = .ok (.getfield 55, 3) := by decide +kernel
theorem dX12_goOdds_144 : decode cX12_goOdds 144 = .ok (.iload 6, 2) := by decide +kernel
theorem dX12_goOdds_146 : decode cX12_goOdds 146 = .ok (.aload_n 0, 1) := by decide +kernel
theorem dX12_goOdds_147 : decode cX12_goOdds 147 = .ok (.getfield 122, 3) := by decide +kernel
theorem dX12_goOdds_150 : decode cX12_goOdds 150 = .ok (.bipush 57, 2) := by decide +kernel
theorem dX12_goOdds_152 : decode cX12_goOdds 152 = .ok (.iload_n 1, 1) := by decide +kernel
theorem dX12_goOdds_153 : decode cX12_goOdds 153 = .ok (.imul, 1) := by decide +kernel
theorem dX12_goOdds_154 : decode cX12_goOdds 154 = .ok (.iload 6, 2) := by decide +kernel
theorem dX12_goOdds_156 : decode cX12_goOdds 156 = .ok (.iadd, 1) := by decide +kernel
theorem dX12_goOdds_157 : decode cX12_goOdds 157 = .ok (.iaload, 1) := by decide +kernel
theorem dX12_goOdds_158 : decode cX12_goOdds 158 = .ok (.iastore, 1) := by decide +kernel
theorem dX12_goOdds_159 : decode cX12_goOdds 159 = .ok (.iinc 6 1, 3) := by decide +kernel
theorem dX12_goOdds_162 : decode cX12_goOdds 162 = .ok (.goto (-29), 3) := by decide +kernel
theorem dX12_goOdds_165 : decode cX12_goOdds 165 = .ok (.iinc 5 1, 3) := by decide +kernel
theorem dX12_goOdds_168 : decode cX12_goOdds 168 = .ok (.goto (-80), 3) := by decide +kernel
theorem dX12_goOdds_171 : decode cX12_goOdds 171 = .ok (.return_, 1) := by decide +kernel
theorem dX12_odds_0 : decode cX12_odds 0 = .ok (.aload_n 0, 1) := by decide +kernel
theorem dX12_odds_1 : decode cX12_odds 1 = .ok (.iconst 0, 1) := by decide +kernel
theorem dX12_odds_2 : decode cX12_odds 2 = .ok (.putfield 131, 3) := by decide +kernel
theorem dX12_odds_5 : decode cX12_odds 5 = .ok (.aload_n 0, 1) := by decide +kernel
theorem dX12_odds_6 : decode cX12_odds 6 = .ok (.getfield 305, 3) := by decide +kernel
theorem dX12_odds_9 : decode cX12_odds 9 = .ok (.ifCond .eq 27, 3) := by decide +kernel
theorem dX12_odds_12 : decode cX12_odds 12 = .ok (.iload_n 1, 1) := by decide +kernel
theorem dX12_odds_13 : decode cX12_odds 13 = .ok (.i2l, 1) := by decide +kernel
theorem dX12_odds_14 : decode cX12_odds 14 = .ok (.lconst 1, 1) := by decide +kernel
theorem dX12_odds_15 : decode cX12_odds 15 = .ok (.ldc2_w 478, 3) := by decide +kernel
theorem dX12_odds_18 : decode cX12_odds 18 = .ok (.invokestatic 253, 3) := by decide +kernel
theorem dX12_odds_21 : decode cX12_odds 21 = .ok (.ifCond .eq 15, 3) := by decide +kernel
theorem dX12_odds_24 : decode cX12_odds 24 = .ok (.iload_n 2, 1) := by decide +kernel
theorem dX12_odds_25 : decode cX12_odds 25 = .ok (.i2l, 1) := by decide +kernel
theorem dX12_odds_26 : decode cX12_odds 26 = .ok (.lconst 0, 1) := by decide +kernel
theorem dX12_odds_27 : decode cX12_odds 27 = .ok (.ldc2_w 456, 3) := by decide +kernel
theorem dX12_odds_30 : decode cX12_odds 30 = .ok (.invokestatic 253, 3) := by decide +kernel
theorem dX12_odds_33 : decode cX12_odds 33 = .ok (.ifCond .ne 5, 3) := by decide +kernel
theorem dX12_odds_36 : decode cX12_odds 36 = .ok (.iconst (-1), 1) := by decide +kernel
theorem dX12_odds_37 : decode cX12_odds 37 = .ok (.ireturn, 1) := by decide +kernel
theorem dX12_odds_38 : decode cX12_odds 38 = .ok (.aload_n 0, 1) := by decide +kernel
theorem dX12_odds_39 : decode cX12_odds 39 = .ok (.invokevirtual 404, 3) := by decide +kernel
theorem dX12_odds_42 : decode cX12_odds 42 = .ok (.aload_n 0, 1) := by decide +kernel
theorem dX12_odds_43 : decode cX12_odds 43 = .ok (.iconst 0, 1) := by decide +kernel
theorem dX12_odds_44 : decode cX12_odds 44 = .ok (.putfield 472, 3) := by decide +kernel
theorem dX12_odds_47 : decode cX12_odds 47 = .ok (.aload_n 0, 1) := by decide +kernel
theorem dX12_odds_48 : decode cX12_odds 48 = .ok (.iload_n 1, 1) := by decide +kernel
theorem dX12_odds_49 : decode cX12_odds 49 = .ok (.ldc_w 480, 3) := by decide +kernel
theorem dX12_odds_52 : decode cX12_odds 52 = .ok (.iload_n 2, 1) := by decide +kernel
theorem dX12_odds_53 : decode cX12_odds 53 = .ok (.invokevirtual 475, 3) := by decide +kernel
theorem dX12_odds_56 : decode cX12_odds 56 = .ok (.aload_n 0, 1) := by decide +kernel
theorem dX12_odds_57 : decode cX12_odds 57 = .ok (.invokevirtual 410, 3) := by decide +kernel
theorem dX12_odds_60 : decode cX12_odds 60 = .ok (.aload_n 0, 1) := by decide +kernel
theorem dX12_odds_61 : decode cX12_odds 61 = .ok (.getfield 472, 3) := by decide +kernel
theorem dX12_odds_64 : decode cX12_odds 64 = .ok (.ireturn, 1) := by decide +kernel
theorem dX12_lone_0 : decode cX12_lone 0 = .ok (.aload_n 0, 1) := by decide +kernel
theorem dX12_lone_1 : decode cX12_lone 1 = .ok (.iconst 0, 1) := by decide +kernel
theorem dX12_lone_2 : decode cX12_lone 2 = .ok (.putfield 131, 3) := by decide +kernel
theorem dX12_lone_5 : decode cX12_lone 5 = .ok (.aload_n 0, 1) := by decide +kernel
theorem dX12_lone_6 : decode cX12_lone 6 = .ok (.iload_n 1, 1) := by decide +kernel
theorem dX12_lone_7 : decode cX12_lone 7 = .ok (.invokevirtual 323, 3) := by decide +kernel
theorem dX12_lone_10 : decode cX12_lone 10 = .ok (.ifCond .eq 13, 3) := by decide +kernel
theorem dX12_lone_13 : decode cX12_lone 13 = .ok (.iload_n 2, 1) := by decide +kernel
theorem dX12_lone_14 : decode cX12_lone 14 = .ok (.i2l, 1) := by decide +kernel
theorem dX12_lone_15 : decode cX12_lone 15 = .ok (.lconst 0, 1) := by decide +kernel
theorem dX12_lone_16 : decode cX12_lone 16 = .ok (.lconst 1, 1) := by decide +kernel
theorem dX12_lone_17 : decode cX12_lone 17 = .ok (.invokestatic 253, 3) := by decide +kernel
theorem dX12_lone_20 : decode cX12_lone 20 = .ok (.ifCond .ne 5, 3) := by decide +kernel
theorem dX12_lone_23 : decode cX12_lone 23 = .ok (.iconst (-1), 1) := by decide +kernel
theorem dX12_lone_24 : decode cX12_lone 24 = .ok (.ireturn, 1) := by decide +kernel
theorem dX12_lone_25 : decode cX12_lone 25 = .ok (.aload_n 0, 1) := by decide +kernel
theorem dX12_lone_26 : decode cX12_lone 26 = .ok (.invokevirtual 404, 3) := by decide +kernel
theorem dX12_lone_29 : decode cX12_lone 29 = .ok (.aload_n 0, 1) := by decide +kernel
theorem dX12_lone_30 : decode cX12_lone 30 = .ok (.iconst 1, 1) := by decide +kernel
theorem dX12_lone_31 : decode cX12_lone 31 = .ok (.aload_n 0, 1) := by decide +kernel
theorem dX12_lone_32 : decode cX12_lone 32 = .ok (.getfield 305, 3) := by decide +kernel
theorem dX12_lone_35 : decode cX12_lone 35 = .ok (.ishl, 1) := by decide +kernel
theorem dX12_lone_36 : decode cX12_lone 36 = .ok (.iconst 1, 1) := by decide +kernel
theorem dX12_lone_37 : decode cX12_lone 37 = .ok (.isub, 1) := by decide +kernel
theorem dX12_lone_38 : decode cX12_lone 38 = .ok (.iconst 1, 1) := by decide +kernel
theorem dX12_lone_39 : decode cX12_lone 39 = .ok (.iload_n 1, 1) := by decide +kernel
theorem dX12_lone_40 : decode cX12_lone 40 = .ok (.ishl, 1) := by decide +kernel
theorem dX12_lone_41 : decode cX12_lone 41 = .ok (.iconst (-1), 1) := by decide +kernel
theorem dX12_lone_42 : decode cX12_lone 42 = .ok (.ixor, 1) := by decide +kernel
theorem dX12_lone_43 : decode cX12_lone 43 = .ok (.iand, 1) := by decide +kernel
theorem dX12_lone_44 : decode cX12_lone 44 = .ok (.putfield 342, 3) := by decide +kernel
theorem dX12_lone_47 : decode cX12_lone 47 = .ok (.iconst (-1), 1) := by decide +kernel
theorem dX12_lone_48 : decode cX12_lone 48 = .ok (.istore_n 3, 1) := by decide +kernel
theorem dX12_lone_49 : decode cX12_lone 49 = .ok (.iconst 0, 1) := by decide +kernel
theorem dX12_lone_50 : decode cX12_lone 50 = .ok (.istore 4, 2) := by decide +kernel
theorem dX12_lone_52 : decode cX12_lone 52 = .ok (.iconst 0, 1) := by decide +kernel
theorem dX12_lone_53 : decode cX12_lone 53 = .ok (.istore 5, 2) := by decide +kernel
theorem dX12_lone_55 : decode cX12_lone 55 = .ok (.iload 5, 2) := by decide +kernel
theorem dX12_lone_57 : decode cX12_lone 57 = .ok (.aload_n 0, 1) := by decide +kernel
theorem dX12_lone_58 : decode cX12_lone 58 = .ok (.getfield 58, 3) := by decide +kernel
theorem dX12_lone_61 : decode cX12_lone 61 = .ok (.bipush 54, 2) := by decide +kernel
theorem dX12_lone_63 : decode cX12_lone 63 = .ok (.iaload, 1) := by decide +kernel
theorem dX12_lone_64 : decode cX12_lone 64 = .ok (.if_icmp .gt 46, 3) := by decide +kernel
theorem dX12_lone_67 : decode cX12_lone 67 = .ok (.aload_n 0, 1) := by decide +kernel
theorem dX12_lone_68 : decode cX12_lone 68 = .ok (.getfield 64, 3) := by decide +kernel
theorem dX12_lone_71 : decode cX12_lone 71 = .ok (.iload_n 1, 1) := by decide +kernel
theorem dX12_lone_72 : decode cX12_lone 72 = .ok (.iload 5, 2) := by decide +kernel
theorem dX12_lone_74 : decode cX12_lone 74 = .ok (.iastore, 1) := by decide +kernel
theorem dX12_lone_75 : decode cX12_lone 75 = .ok (.aload_n 0, 1) := by decide +kernel
theorem dX12_lone_76 : decode cX12_lone 76 = .ok (.iload_n 1, 1) := by decide +kernel
theorem dX12_lone_77 : decode cX12_lone 77 = .ok (.invokevirtual 433, 3) := by decide +kernel
theorem dX12_lone_80 : decode cX12_lone 80 = .ok (.istore 6, 2) := by decide +kernel
theorem dX12_lone_82 : decode cX12_lone 82 = .ok (.iload_n 3, 1) := by decide +kernel
theorem dX12_lone_83 : decode cX12_lone 83 = .ok (.iconst (-1), 1) := by decide +kernel
theorem dX12_lone_84 : decode cX12_lone 84 = .ok (.if_icmp .eq 13, 3) := by decide +kernel
theorem dX12_lone_87 : decode cX12_lone 87 = .ok (.iload 6, 2) := by decide +kernel
theorem dX12_lone_89 : decode cX12_lone 89 = .ok (.iload 4, 2) := by decide +kernel
theorem dX12_lone_91 : decode cX12_lone 91 = .ok (.if_icmp .gt 6, 3) := by decide +kernel
theorem dX12_lone_94 : decode cX12_lone 94 = .ok (.goto 10, 3) := by decide +kernel
theorem dX12_lone_97 : decode cX12_lone 97 = .ok (.iload 5, 2) := by decide +kernel
theorem dX12_lone_99 : decode cX12_lone 99 = .ok (.istore_n 3, 1) := by decide +kernel
theorem dX12_lone_100 : decode cX12_lone 100 = .ok (.iload 6, 2) := by decide +kernel
theorem dX12_lone_102 : decode cX12_lone 102 = .ok (.istore 4, 2) := by decide +kernel
theorem dX12_lone_104 : decode cX12_lone 104 = .ok (.iinc 5 1, 3) := by decide +kernel
theorem dX12_lone_107 : decode cX12_lone 107 = .ok (.goto (-52), 3) := by decide +kernel
theorem dX12_lone_110 : decode cX12_lone 110 = .ok (.aload_n 0, 1) := by decide +kernel
theorem dX12_lone_111 : decode cX12_lone 111 = .ok (.invokevirtual 393, 3) := by decide +kernel
theorem dX12_lone_114 : decode cX12_lone 114 = .ok (.iload_n 2, 1) := by decide +kernel
theorem dX12_lone_115 : decode cX12_lone 115 = .ok (.ifCond .ne 7, 3) := by decide +kernel
theorem dX12_lone_118 : decode cX12_lone 118 = .ok (.iload_n 3, 1) := by decide +kernel
theorem dX12_lone_119 : decode cX12_lone 119 = .ok (.goto 5, 3) := by decide +kernel
theorem dX12_lone_122 : decode cX12_lone 122 = .ok (.iload 4, 2) := by decide +kernel
theorem dX12_lone_124 : decode cX12_lone 124 = .ok (.ireturn, 1) := by decide +kernel
theorem dX12_glut_0 : decode cX12_glut 0 = .ok (.aload_n 0, 1) := by decide +kernel
theorem dX12_glut_1 : decode cX12_glut 1 = .ok (.iconst 0, 1) := by decide +kernel
theorem dX12_glut_2 : decode cX12_glut 2 = .ok (.putfield 131, 3) := by decide +kernel
theorem dX12_glut_5 : decode cX12_glut 5 = .ok (.aload_n 0, 1) := by decide +kernel
theorem dX12_glut_6 : decode cX12_glut 6 = .ok (.iload_n 1, 1) := by decide +kernel
theorem dX12_glut_7 : decode cX12_glut 7 = .ok (.invokevirtual 390, 3) := by decide +kernel
theorem dX12_glut_10 : decode cX12_glut 10 = .ok (.ifCond .eq 13, 3) := by decide +kernel
theorem dX12_glut_13 : decode cX12_glut 13 = .ok (.iload_n 2, 1) := by decide +kernel
theorem dX12_glut_14 : decode cX12_glut 14 = .ok (.i2l, 1) := by decide +kernel
theorem dX12_glut_15 : decode cX12_glut 15 = .ok (.lconst 0, 1) := by decide +kernel
theorem dX12_glut_16 : decode cX12_glut 16 = .ok (.lconst 1, 1) := by decide +kernel
theorem dX12_glut_17 : decode cX12_glut 17 = .ok (.invokestatic 253, 3) := by decide +kernel
theorem dX12_glut_20 : decode cX12_glut 20 = .ok (.ifCond .ne 5, 3) := by decide +kernel
theorem dX12_glut_23 : decode cX12_glut 23 = .ok (.iconst (-1), 1) := by decide +kernel
theorem dX12_glut_24 : decode cX12_glut 24 = .ok (.ireturn, 1) := by decide +kernel
theorem dX12_glut_25 : decode cX12_glut 25 = .ok (.aload_n 0, 1) := by decide +kernel
theorem dX12_glut_26 : decode cX12_glut 26 = .ok (.invokevirtual 404, 3) := by decide +kernel
theorem dX12_glut_29 : decode cX12_glut 29 = .ok (.iconst 0, 1) := by decide +kernel
theorem dX12_glut_30 : decode cX12_glut 30 = .ok (.istore_n 3, 1) := by decide +kernel
theorem dX12_glut_31 : decode cX12_glut 31 = .ok (.iconst 0, 1) := by decide +kernel
theorem dX12_glut_32 : decode cX12_glut 32 = .ok (.istore 4, 2) := by decide +kernel
theorem dX12_glut_34 : decode cX12_glut 34 = .ok (.iload 4, 2) := by decide +kernel
theorem dX12_glut_36 : decode cX12_glut 36 = .ok (.iload_n 1, 1) := by decide +kernel
theorem dX12_glut_37 : decode cX12_glut 37 = .ok (.if_icmp .ge 82, 3) := by decide +kernel
theorem dX12_glut_40 : decode cX12_glut 40 = .ok (.aload_n 0, 1) := by decide +kernel
theorem dX12_glut_41 : decode cX12_glut 41 = .ok (.iconst 0, 1) := by decide +kernel
theorem dX12_glut_42 : decode cX12_glut 42 = .ok (.invokevirtual 400, 3) := by decide +kernel
theorem dX12_glut_45 : decode cX12_glut 45 = .ok (.iconst 0, 1) := by decide +kernel
theorem dX12_glut_46 : decode cX12_glut 46 = .ok (.istore 5, 2) := by decide +kernel
theorem dX12_glut_48 : decode cX12_glut 48 = .ok (.iconst 0, 1) := by decide +kernel
theorem dX12_glut_49 : decode cX12_glut 49 = .ok (.istore 6, 2) := by decide +kernel
theorem dX12_glut_51 : decode cX12_glut 51 = .ok (.iload 6, 2) := by decide +kernel
theorem dX12_glut_53 : decode cX12_glut 53 = .ok (.aload_n 0, 1) := by decide +kernel
theorem dX12_glut_54 : decode cX12_glut 54 = .ok (.getfield 305, 3) := by decide +kernel
theorem dX12_glut_57 : decode cX12_glut 57 = .ok (.if_icmp .ge 43, 3) := by decide +kernel
theorem dX12_glut_60 : decode cX12_glut 60 = .ok (.iload 5, 2) := by decide +kernel
theorem dX12_glut_62 : decode cX12_glut 62 = .ok (.ifCond .ne 25, 3) := by decide +kernel
theorem dX12_glut_65 : decode cX12_glut 65 = .ok (.aload_n 0, 1) := by decide +kernel
theorem dX12_glut_66 : decode cX12_glut 66 = .ok (.getfield 55, 3) := by decide +kernel
theorem dX12_glut_69 : decode cX12_glut 69 = .ok (.bipush 6, 2) := by decide +kernel
theorem dX12_glut_71 : decode cX12_glut 71 = .ok (.iload 6, 2) := by decide +kernel
theorem dX12_glut_73 : decode cX12_glut 73 = .ok (.iadd, 1) := by decide +kernel
theorem dX12_glut_74 : decode cX12_glut 74 = .ok (.iaload, 1) := by decide +kernel
theorem dX12_glut_75 : decode cX12_glut 75 = .ok (.aload_n 0, 1) := by decide +kernel
theorem dX12_glut_76 : decode cX12_glut 76 = .ok (.getfield 37, 3) := by decide +kernel
theorem dX12_glut_79 : decode cX12_glut 79 = .ok (.iconst 3, 1) := by decide +kernel
theorem dX12_glut_80 : decode cX12_glut 80 = .ok (.iload 6, 2) := by decide +kernel
theorem dX12_glut_82 : decode cX12_glut 82 = .ok (.imul, 1) := by decide +kernel
theorem dX12_glut_83 : decode cX12_glut 83 = .ok (.iaload, 1) := by decide +kernel
theorem dX12_glut_84 : decode cX12_glut 84 = .ok (.if_icmp .le 7, 3) := by decide +kernel
theorem dX12_glut_87 : decode cX12_glut 87 = .ok (.iconst 1, 1) := by decide +kernel
theorem dX12_glut_88 : decode cX12_glut 88 = .ok (.goto 4, 3) := by decide +kernel
theorem dX12_glut_91 : decode cX12_glut 91 = .ok (.iconst 0, 1) := by decide +kernel
theorem dX12_glut_92 : decode cX12_glut 92 = .ok (.istore 5, 2) := by decide +kernel
theorem dX12_glut_94 : decode cX12_glut 94 = .ok (.iinc 6 1, 3) := by decide +kernel
theorem dX12_glut_97 : decode cX12_glut 97 = .ok (.goto (-46), 3) := by decide +kernel
theorem dX12_glut_100 : decode cX12_glut 100 = .ok (.iload_n 3, 1) := by decide +kernel
theorem dX12_glut_101 : decode cX12_glut 101 = .ok (.iload 5, 2) := by decide +kernel
theorem dX12_glut_103 : decode cX12_glut 103 = .ok (.ifCond .eq 7, 3) := by decide +kernel
theorem dX12_glut_106 : decode cX12_glut 106 = .ok (.iconst 1, 1) := by decide +kernel
theorem dX12_glut_107 : decode cX12_glut 107 = .ok (.goto 4, 3) := by decide +kernel
theorem dX12_glut_110 : decode cX12_glut 110 = .ok (.iconst 0, 1) := by decide +kernel
theorem dX12_glut_111 : decode cX12_glut 111 = .ok (.iadd, 1) := by decide +kernel
theorem dX12_glut_112 : decode cX12_glut 112 = .ok (.istore_n 3, 1) := by decide +kernel
theorem dX12_glut_113 : decode cX12_glut 113 = .ok (.iinc 4 1, 3) := by decide +kernel
theorem dX12_glut_116 : decode cX12_glut 116 = .ok (.goto (-82), 3) := by decide +kernel
theorem dX12_glut_119 : decode cX12_glut 119 = .ok (.iconst 0, 1) := by decide +kernel
theorem dX12_glut_120 : decode cX12_glut 120 = .ok (.istore 4, 2) := by decide +kernel
theorem dX12_glut_122 : decode cX12_glut 122 = .ok (.iconst 1, 1) := by decide +kernel
theorem dX12_glut_123 : decode cX12_glut 123 = .ok (.istore 5, 2) := by decide +kernel
theorem dX12_glut_125 : decode cX12_glut 125 = .ok (.iload 5, 2) := by decide +kernel
theorem dX12_glut_127 : decode cX12_glut 127 = .ok (.aload_n 0, 1) := by decide +kernel
theorem dX12_glut_128 : decode cX12_glut 128 = .ok (.getfield 305, 3) := by decide +kernel
theorem dX12_glut_131 : decode cX12_glut 131 = .ok (.if_icmp .ge 35, 3) := by decide +kernel
theorem dX12_glut_134 : decode cX12_glut 134 = .ok (.aload_n 0, 1) := by decide +kernel
theorem dX12_glut_135 : decode cX12_glut 135 = .ok (.getfield 55, 3) := by decide +kernel
theorem dX12_glut_138 : decode cX12_glut 138 = .ok (.iload 5, 2) := by decide +kernel
theorem dX12_glut_140 : decode cX12_glut 140 = .ok (.iaload, 1) := by decide +kernel
theorem dX12_glut_141 : decode cX12_glut 141 = .ok (.aload_n 0, 1) := by decide +kernel
theorem dX12_glut_142 : decode cX12_glut 142 = .ok (.getfield 55, 3) := by decide +kernel
theorem dX12_glut_145 : decode cX12_glut 145 = .ok (.iload 4, 2) := by decide +kernel
theorem dX12_glut_147 : decode cX12_glut 147 = .ok (.iaload, 1) := by decide +kernel
theorem dX12_glut_148 : decode cX12_glut 148 = .ok (.if_icmp .le 8, 3) := by decide +kernel
theorem dX12_glut_151 : decode cX12_glut 151 = .ok (.iload 5, 2) := by decide +kernel
theorem dX12_glut_153 : decode cX12_glut 153 = .ok (.goto 5, 3) := by decide +kernel
theorem dX12_glut_156 : decode cX12_glut 156 = .ok (.iload 4, 2) := by decide +kernel
theorem dX12_glut_158 : decode cX12_glut 158 = .ok (.istore 4, 2) := by decide +kernel
theorem dX12_glut_160 : decode cX12_glut 160 = .ok (.iinc 5 1, 3) := by decide +kernel
theorem dX12_glut_163 : decode cX12_glut 163 = .ok (.goto (-38), 3) := by decide +kernel
theorem dX12_glut_166 : decode cX12_glut 166 = .ok (.aload_n 0, 1) := by decide +kernel
theorem dX12_glut_167 : decode cX12_glut 167 = .ok (.invokevirtual 410, 3) := by decide +kernel
theorem dX12_glut_170 : decode cX12_glut 170 = .ok (.iload_n 2, 1) := by decide +kernel
theorem dX12_glut_171 : decode cX12_glut 171 = .ok (.ifCond .ne 7, 3) := by decide +kernel
theorem dX12_glut_174 : decode cX12_glut 174 = .ok (.iload_n 3, 1) := by decide +kernel
theorem dX12_glut_175 : decode cX12_glut 175 = .ok (.goto 5, 3) := by decide +kernel
theorem dX12_glut_178 : decode cX12_glut 178 = .ok (.iload 4, 2) := by decide +kernel
theorem dX12_glut_180 : decode cX12_glut 180 = .ok (.ireturn, 1) := by decide +kernel
theorem dX12_image_0 : decode cX12_image 0 = .ok (.aload_n 0, 1) := by decide +kernel
theorem dX12_image_1 : decode cX12_image 1 = .ok (.iconst 0, 1) := by decide +kernel
theorem dX12_image_2 : decode cX12_image 2 = .ok (.putfield 131, 3) := by decide +kernel
theorem dX12_image_5 : decode cX12_image 5 = .ok (.aload_n 0, 1) := by decide +kernel
theorem dX12_image_6 : decode cX12_image 6 = .ok (.getfield 305, 3) := by decide +kernel
theorem dX12_image_9 : decode cX12_image 9 = .ok (.ifCond .ne 5, 3) := by decide +kernel
theorem dX12_image_12 : decode cX12_image 12 = .ok (.iconst (-1), 1) := by decide +kernel
theorem dX12_image_13 : decode cX12_image 13 = .ok (.ireturn, 1) := by decide +kernel
theorem dX12_image_14 : decode cX12_image 14 = .ok (.iconst 0, 1) := by decide +kernel
theorem dX12_image_15 : decode cX12_image 15 = .ok (.istore_n 1, 1) := by decide +kernel
theorem dX12_image_16 : decode cX12_image 16 = .ok (.iload_n 1, 1) := by decide +kernel
theorem dX12_image_17 : decode cX12_image 17 = .ok (.bipush 57, 2) := by decide +kernel
theorem dX12_image_19 : decode cX12_image 19 = .ok (.if_icmp .ge 21, 3) := by decide +kernel
theorem dX12_image_22 : decode cX12_image 22 = .ok (.aload_n 0, 1) := by decide +kernel
theorem dX12_image_23 : decode cX12_image 23 = .ok (.getfield 125, 3) := by decide +kernel
theorem dX12_image_26 : decode cX12_image 26 = .ok (.iload_n 1, 1) := by decide +kernel
theorem dX12_image_27 : decode cX12_image 27 = .ok (.aload_n 0, 1) := by decide +kernel
theorem dX12_image_28 : decode cX12_image 28 = .ok (.getfield 55, 3) := by decide +kernel
theorem dX12_image_31 : decode cX12_image 31 = .ok (.iload_n 1, 1) := by decide +kernel
theorem dX12_image_32 : decode cX12_image 32 = .ok (.iaload, 1) := by decide +kernel
theorem dX12_image_33 : decode cX12_image 33 = .ok (.iastore, 1) := by decide +kernel
theorem dX12_image_34 : decode cX12_image 34 = .ok (.iinc 1 1, 3) := by decide +kernel
theorem dX12_image_37 : decode cX12_image 37 = .ok (.goto (-21), 3) := by decide +kernel
theorem dX12_image_40 : decode cX12_image 40 = .ok (.iconst 0, 1) := by decide +kernel
theorem dX12_image_41 : decode cX12_image 41 = .ok (.istore_n 1, 1) := by decide +kernel
theorem dX12_image_42 : decode cX12_image 42 = .ok (.iload_n 1, 1) := by decide +kernel
theorem dX12_image_43 : decode cX12_image 43 = .ok (.iconst 5, 1) := by decide +kernel
theorem dX12_image_44 : decode cX12_image 44 = .ok (.if_icmp .ge 21, 3) := by decide +kernel
theorem dX12_image_47 : decode cX12_image 47 = .ok (.aload_n 0, 1) := by decide +kernel
theorem dX12_image_48 : decode cX12_image 48 = .ok (.getfield 128, 3) := by decide +kernel
theorem dX12_image_51 : decode cX12_image 51 = .ok (.iload_n 1, 1) := by decide +kernel
theorem dX12_image_52 : decode cX12_image 52 = .ok (.aload_n 0, 1) := by decide +kernel
theorem dX12_image_53 : decode cX12_image 53 = .ok (.getfield 61, 3) := by decide +kernel
theorem dX12_image_56 : decode cX12_image 56 = .ok (.iload_n 1, 1) := by decide +kernel
theorem dX12_image_57 : decode cX12_image 57 = .ok (.iaload, 1) := by decide +kernel
theorem dX12_image_58 : decode cX12_image 58 = .ok (.iastore, 1) := by decide +kernel
theorem dX12_image_59 : decode cX12_image 59 = .ok (.iinc 1 1, 3) := by decide +kernel
theorem dX12_image_62 : decode cX12_image 62 = .ok (.goto (-20), 3) := by decide +kernel
theorem dX12_image_65 : decode cX12_image 65 = .ok (.aload_n 0, 1) := by decide +kernel
theorem dX12_image_66 : decode cX12_image 66 = .ok (.aload_n 0, 1) := by decide +kernel
theorem dX12_image_67 : decode cX12_image 67 = .ok (.getfield 311, 3) := by decide +kernel
theorem dX12_image_70 : decode cX12_image 70 = .ok (.putfield 481, 3) := by decide +kernel
theorem dX12_image_73 : decode cX12_image 73 = .ok (.aload_n 0, 1) := by decide +kernel
theorem dX12_image_74 : decode cX12_image 74 = .ok (.aload_n 0, 1) := by decide +kernel
theorem dX12_image_75 : decode cX12_image 75 = .ok (.getfield 338, 3) := by decide +kernel
theorem dX12_image_78 : decode cX12_image 78 = .ok (.putfield 484, 3) := by decide +kernel
theorem dX12_image_81 : decode cX12_image 81 = .ok (.aload_n 0, 1) := by decide +kernel
theorem dX12_image_82 : decode cX12_image 82 = .ok (.iconst 1, 1) := by decide +kernel
theorem dX12_image_83 : decode cX12_image 83 = .ok (.putfield 320, 3) := by decide +kernel
theorem dX12_image_86 : decode cX12_image 86 = .ok (.aload_n 0, 1) := by decide +kernel
theorem dX12_image_87 : decode cX12_image 87 = .ok (.getfield 55, 3) := by decide +kernel
theorem dX12_image_90 : decode cX12_image 90 = .ok (.bipush 56, 2) := by decide +kernel
theorem dX12_image_92 : decode cX12_image 92 = .ok (.iaload, 1) := by decide +kernel
theorem dX12_image_93 : decode cX12_image 93 = .ok (.ireturn, 1) := by decide +kernel
theorem dX12_back_0 : decode cX12_back 0 = .ok (.aload_n 0, 1) := by decide +kernel
theorem dX12_back_1 : decode cX12_back 1 = .ok (.iconst 0, 1) := by decide +kernel
theorem dX12_back_2 : decode cX12_back 2 = .ok (.putfield 131, 3) := by decide +kernel
theorem dX12_back_5 : decode cX12_back 5 = .ok (.aload_n 0, 1) := by decide +kernel
theorem dX12_back_6 : decode cX12_back 6 = .ok (.getfield 320, 3) := by decide +kernel
theorem dX12_back_9 : decode cX12_back 9 = .ok (.ifCond .ne 5, 3) := by decide +kernel
theorem dX12_back_12 : decode cX12_back 12 = .ok (.iconst (-1), 1) := by decide +kernel
theorem dX12_back_13 : decode cX12_back 13 = .ok (.ireturn, 1) := by decide +kernel
theorem dX12_back_14 : decode cX12_back 14 = .ok (.iconst 0, 1) := by decide +kernel
theorem dX12_back_15 : decode cX12_back 15 = .ok (.istore_n 1, 1) := by decide +kernel
theorem dX12_back_16 : decode cX12_back 16 = .ok (.iload_n 1, 1) := by decide +kernel
theorem dX12_back_17 : decode cX12_back 17 = .ok (.bipush 57, 2) := by decide +kernel
theorem dX12_back_19 : decode cX12_back 19 = .ok (.if_icmp .ge 21, 3) := by decide +kernel
theorem dX12_back_22 : decode cX12_back 22 = .ok (.aload_n 0, 1) := by decide +kernel
theorem dX12_back_23 : decode cX12_back 23 = .ok (.getfield 55, 3) := by decide +kernel
theorem dX12_back_26 : decode cX12_back 26 = .ok (.iload_n 1, 1) := by decide +kernel
theorem dX12_back_27 : decode cX12_back 27 = .ok (.aload_n 0, 1) := by decide +kernel
theorem dX12_back_28 : decode cX12_back 28 = .ok (.getfield 125, 3) := by decide +kernel
theorem dX12_back_31 : decode cX12_back 31 = .ok (.iload_n 1, 1) := by decide +kernel
theorem dX12_back_32 : decode cX12_back 32 = .ok (.iaload, 1) := by decide +kernel
theorem dX12_back_33 : decode cX12_back 33 = .ok (.iastore, 1) := by decide +kernel
theorem dX12_back_34 : decode cX12_back 34 = .ok (.iinc 1 1, 3) := by decide +kernel
theorem dX12_back_37 : decode cX12_back 37 = .ok (.goto (-21), 3) := by decide +kernel
theorem dX12_back_40 : decode cX12_back 40 = .ok (.iconst 0, 1) := by decide +kernel
theorem dX12_back_41 : decode cX12_back 41 = .ok (.istore_n 1, 1) := by decide +kernel
theorem dX12_back_42 : decode cX12_back 42 = .ok (.iload_n 1, 1) := by decide +kernel
theorem dX12_back_43 : decode cX12_back 43 = .ok (.iconst 5, 1) := by decide +kernel
theorem dX12_back_44 : decode cX12_back 44 = .ok (.if_icmp .ge 21, 3) := by decide +kernel
theorem dX12_back_47 : decode cX12_back 47 = .ok (.aload_n 0, 1) := by decide +kernel
theorem dX12_back_48 : decode cX12_back 48 = .ok (.getfield 61, 3) := by decide +kernel
theorem dX12_back_51 : decode cX12_back 51 = .ok (.iload_n 1, 1) := by decide +kernel
theorem dX12_back_52 : decode cX12_back 52 = .ok (.aload_n 0, 1) := by decide +kernel
theorem dX12_back_53 : decode cX12_back 53 = .ok (.getfield 128, 3) := by decide +kernel
theorem dX12_back_56 : decode cX12_back 56 = .ok (.iload_n 1, 1) := by decide +kernel
theorem dX12_back_57 : decode cX12_back 57 = .ok (.iaload, 1) := by decide +kernel
theorem dX12_back_58 : decode cX12_back 58 = .ok (.iastore, 1) := by decide +kernel
theorem dX12_back_59 : decode cX12_back 59 = .ok (.iinc 1 1, 3) := by decide +kernel
theorem dX12_back_62 : decode cX12_back 62 = .ok (.goto (-20), 3) := by decide +kernel
theorem dX12_back_65 : decode cX12_back 65 = .ok (.aload_n 0, 1) := by decide +kernel
theorem dX12_back_66 : decode cX12_back 66 = .ok (.aload_n 0, 1) := by decide +kernel
theorem dX12_back_67 : decode cX12_back 67 = .ok (.getfield 481, 3) := by decide +kernel
theorem dX12_back_70 : decode cX12_back 70 = .ok (.putfield 311, 3) := by decide +kernel
theorem dX12_back_73 : decode cX12_back 73 = .ok (.aload_n 0, 1) := by decide +kernel
theorem dX12_back_74 : decode cX12_back 74 = .ok (.aload_n 0, 1) := by decide +kernel
theorem dX12_back_75 : decode cX12_back 75 = .ok (.getfield 484, 3) := by decide +kernel
theorem dX12_back_78 : decode cX12_back 78 = .ok (.putfield 338, 3) := by decide +kernel
theorem dX12_back_81 : decode cX12_back 81 = .ok (.aload_n 0, 1) := by decide +kernel
theorem dX12_back_82 : decode cX12_back 82 = .ok (.getfield 55, 3) := by decide +kernel
theorem dX12_back_85 : decode cX12_back 85 = .ok (.bipush 56, 2) := by decide +kernel
theorem dX12_back_87 : decode cX12_back 87 = .ok (.iaload, 1) := by decide +kernel
theorem dX12_back_88 : decode cX12_back 88 = .ok (.ireturn, 1) := by decide +kernel
theorem dX12_count_0 : decode cX12_count 0 = .ok (.aload_n 0, 1) := by decide +kernel
theorem dX12_count_1 : decode cX12_count 1 = .ok (.iconst 0, 1) := by decide +kernel
theorem dX12_count_2 : decode cX12_count 2 = .ok (.putfield 131, 3) := by decide +kernel
theorem dX12_count_5 : decode cX12_count 5 = .ok (.iload_n 1, 1) := by decide +kernel
theorem dX12_count_6 : decode cX12_count 6 = .ok (.tableswitch 126 0 10 #[58, 63, 68, 73, 78, 86, 94, 102, 107, 112, 119], 58) := by decide +kernel
theorem dX12_count_64 : decode cX12_count 64 = .ok (.aload_n 0, 1) := by decide +kernel
theorem dX12_count_65 : decode cX12_count 65 = .ok (.getfield 305, 3) := by decide +kernel
theorem dX12_count_68 : decode cX12_count 68 = .ok (.ireturn, 1) := by decide +kernel
theorem dX12_count_69 : decode cX12_count 69 = .ok (.aload_n 0, 1) := by decide +kernel
theorem dX12_count_70 : decode cX12_count 70 = .ok (.getfield 308, 3) := by decide +kernel
theorem dX12_count_73 : decode cX12_count 73 = .ok (.ireturn, 1) := by decide +kernel
theorem dX12_count_74 : decode cX12_count 74 = .ok (.aload_n 0, 1) := by decide +kernel
theorem dX12_count_75 : decode cX12_count 75 = .ok (.getfield 300, 3) := by decide +kernel
theorem dX12_count_78 : decode cX12_count 78 = .ok (.ireturn, 1) := by decide +kernel
theorem dX12_count_79 : decode cX12_count 79 = .ok (.aload_n 0, 1) := by decide +kernel
theorem dX12_count_80 : decode cX12_count 80 = .ok (.getfield 145, 3) := by decide +kernel
theorem dX12_count_83 : decode cX12_count 83 = .ok (.ireturn, 1) := by decide +kernel
theorem dX12_count_84 : decode cX12_count 84 = .ok (.aload_n 0, 1) := by decide +kernel
theorem dX12_count_85 : decode cX12_count 85 = .ok (.getfield 55, 3) := by decide +kernel
theorem dX12_count_88 : decode cX12_count 88 = .ok (.bipush 56, 2) := by decide +kernel
theorem dX12_count_90 : decode cX12_count 90 = .ok (.iaload, 1) := by decide +kernel
theorem dX12_count_91 : decode cX12_count 91 = .ok (.ireturn, 1) := by decide +kernel
theorem dX12_count_92 : decode cX12_count 92 = .ok (.aload_n 0, 1) := by decide +kernel
theorem dX12_count_93 : decode cX12_count 93 = .ok (.getfield 55, 3) := by decide +kernel
theorem dX12_count_96 : decode cX12_count 96 = .ok (.bipush 54, 2) := by decide +kernel
theorem dX12_count_98 : decode cX12_count 98 = .ok (.iaload, 1) := by decide +kernel
theorem dX12_count_99 : decode cX12_count 99 = .ok (.ireturn, 1) := by decide +kernel
theorem dX12_count_100 : decode cX12_count 100 = .ok (.aload_n 0, 1) := by decide +kernel
theorem dX12_count_101 : decode cX12_count 101 = .ok (.getfield 55, 3) := by decide +kernel
theorem dX12_count_104 : decode cX12_count 104 = .ok (.bipush 55, 2) := by decide +kernel
theorem dX12_count_106 : decode cX12_count 106 = .ok (.iaload, 1) := by decide +kernel
theorem dX12_count_107 : decode cX12_count 107 = .ok (.ireturn, 1) := by decide +kernel
theorem dX12_count_108 : decode cX12_count 108 = .ok (.aload_n 0, 1) := by decide +kernel
theorem dX12_count_109 : decode cX12_count 109 = .ok (.getfield 314, 3) := by decide +kernel
theorem dX12_count_112 : decode cX12_count 112 = .ok (.ireturn, 1) := by decide +kernel
theorem dX12_count_113 : decode cX12_count 113 = .ok (.aload_n 0, 1) := by decide +kernel
theorem dX12_count_114 : decode cX12_count 114 = .ok (.getfield 317, 3) := by decide +kernel
theorem dX12_count_117 : decode cX12_count 117 = .ok (.ireturn, 1) := by decide +kernel
theorem dX12_count_118 : decode cX12_count 118 = .ok (.aload_n 0, 1) := by decide +kernel
theorem dX12_count_119 : decode cX12_count 119 = .ok (.getfield 43, 3) := by decide +kernel
theorem dX12_count_122 : decode cX12_count 122 = .ok (.iconst 1, 1) := by decide +kernel
theorem dX12_count_123 : decode cX12_count 123 = .ok (.iaload, 1) := by decide +kernel
theorem dX12_count_124 : decode cX12_count 124 = .ok (.ireturn, 1) := by decide +kernel
theorem dX12_count_125 : decode cX12_count 125 = .ok (.aload_n 0, 1) := by decide +kernel
theorem dX12_count_126 : decode cX12_count 126 = .ok (.getfield 43, 3) := by decide +kernel
theorem dX12_count_129 : decode cX12_count 129 = .ok (.iconst 0, 1) := by decide +kernel
theorem dX12_count_130 : decode cX12_count 130 = .ok (.iaload, 1) := by decide +kernel
theorem dX12_count_131 : decode cX12_count 131 = .ok (.ireturn, 1) := by decide +kernel
theorem dX12_count_132 : decode cX12_count 132 = .ok (.ldc_w 432, 3) := by decide +kernel
theorem dX12_count_135 : decode cX12_count 135 = .ok (.ireturn, 1) := by decide +kernel
theorem dJ6_bitCount_0f7a4_0 : decode cJ6_bitCount_0f7a4 0 = .ok (.iload_n 0, 1) := by decide +kernel
theorem dJ6_bitCount_0f7a4_1 : decode cJ6_bitCount_0f7a4 1 = .ok (.iload_n 0, 1) := by decide +kernel
theorem dJ6_bitCount_0f7a4_2 : decode cJ6_bitCount_0f7a4 2 = .ok (.iconst 1, 1) := by decide +kernel
theorem dJ6_bitCount_0f7a4_3 : decode cJ6_bitCount_0f7a4 3 = .ok (.iushr, 1) := by decide +kernel
theorem dJ6_bitCount_0f7a4_4 : decode cJ6_bitCount_0f7a4 4 = .ok (.ldc_w 265, 3) := by decide +kernel
theorem dJ6_bitCount_0f7a4_7 : decode cJ6_bitCount_0f7a4 7 = .ok (.iand, 1) := by decide +kernel
theorem dJ6_bitCount_0f7a4_8 : decode cJ6_bitCount_0f7a4 8 = .ok (.isub, 1) := by decide +kernel
theorem dJ6_bitCount_0f7a4_9 : decode cJ6_bitCount_0f7a4 9 = .ok (.istore_n 0, 1) := by decide +kernel
theorem dJ6_bitCount_0f7a4_10 : decode cJ6_bitCount_0f7a4 10 = .ok (.iload_n 0, 1) := by decide +kernel
theorem dJ6_bitCount_0f7a4_11 : decode cJ6_bitCount_0f7a4 11 = .ok (.ldc_w 266, 3) := by decide +kernel
theorem dJ6_bitCount_0f7a4_14 : decode cJ6_bitCount_0f7a4 14 = .ok (.iand, 1) := by decide +kernel
theorem dJ6_bitCount_0f7a4_15 : decode cJ6_bitCount_0f7a4 15 = .ok (.iload_n 0, 1) := by decide +kernel
theorem dJ6_bitCount_0f7a4_16 : decode cJ6_bitCount_0f7a4 16 = .ok (.iconst 2, 1) := by decide +kernel
theorem dJ6_bitCount_0f7a4_17 : decode cJ6_bitCount_0f7a4 17 = .ok (.iushr, 1) := by decide +kernel
theorem dJ6_bitCount_0f7a4_18 : decode cJ6_bitCount_0f7a4 18 = .ok (.ldc_w 266, 3) := by decide +kernel
theorem dJ6_bitCount_0f7a4_21 : decode cJ6_bitCount_0f7a4 21 = .ok (.iand, 1) := by decide +kernel
theorem dJ6_bitCount_0f7a4_22 : decode cJ6_bitCount_0f7a4 22 = .ok (.iadd, 1) := by decide +kernel
theorem dJ6_bitCount_0f7a4_23 : decode cJ6_bitCount_0f7a4 23 = .ok (.istore_n 0, 1) := by decide +kernel
theorem dJ6_bitCount_0f7a4_24 : decode cJ6_bitCount_0f7a4 24 = .ok (.iload_n 0, 1) := by decide +kernel
theorem dJ6_bitCount_0f7a4_25 : decode cJ6_bitCount_0f7a4 25 = .ok (.iload_n 0, 1) := by decide +kernel
theorem dJ6_bitCount_0f7a4_26 : decode cJ6_bitCount_0f7a4 26 = .ok (.iconst 4, 1) := by decide +kernel
theorem dJ6_bitCount_0f7a4_27 : decode cJ6_bitCount_0f7a4 27 = .ok (.iushr, 1) := by decide +kernel
theorem dJ6_bitCount_0f7a4_28 : decode cJ6_bitCount_0f7a4 28 = .ok (.iadd, 1) := by decide +kernel
theorem dJ6_bitCount_0f7a4_29 : decode cJ6_bitCount_0f7a4 29 = .ok (.ldc_w 267, 3) := by decide +kernel
theorem dJ6_bitCount_0f7a4_32 : decode cJ6_bitCount_0f7a4 32 = .ok (.iand, 1) := by decide +kernel
theorem dJ6_bitCount_0f7a4_33 : decode cJ6_bitCount_0f7a4 33 = .ok (.istore_n 0, 1) := by decide +kernel
theorem dJ6_bitCount_0f7a4_34 : decode cJ6_bitCount_0f7a4 34 = .ok (.iload_n 0, 1) := by decide +kernel
theorem dJ6_bitCount_0f7a4_35 : decode cJ6_bitCount_0f7a4 35 = .ok (.iload_n 0, 1) := by decide +kernel
theorem dJ6_bitCount_0f7a4_36 : decode cJ6_bitCount_0f7a4 36 = .ok (.bipush 8, 2) := by decide +kernel
theorem dJ6_bitCount_0f7a4_38 : decode cJ6_bitCount_0f7a4 38 = .ok (.iushr, 1) := by decide +kernel
theorem dJ6_bitCount_0f7a4_39 : decode cJ6_bitCount_0f7a4 39 = .ok (.iadd, 1) := by decide +kernel
theorem dJ6_bitCount_0f7a4_40 : decode cJ6_bitCount_0f7a4 40 = .ok (.istore_n 0, 1) := by decide +kernel
theorem dJ6_bitCount_0f7a4_41 : decode cJ6_bitCount_0f7a4 41 = .ok (.iload_n 0, 1) := by decide +kernel
theorem dJ6_bitCount_0f7a4_42 : decode cJ6_bitCount_0f7a4 42 = .ok (.iload_n 0, 1) := by decide +kernel
theorem dJ6_bitCount_0f7a4_43 : decode cJ6_bitCount_0f7a4 43 = .ok (.bipush 16, 2) := by decide +kernel
theorem dJ6_bitCount_0f7a4_45 : decode cJ6_bitCount_0f7a4 45 = .ok (.iushr, 1) := by decide +kernel
theorem dJ6_bitCount_0f7a4_46 : decode cJ6_bitCount_0f7a4 46 = .ok (.iadd, 1) := by decide +kernel
theorem dJ6_bitCount_0f7a4_47 : decode cJ6_bitCount_0f7a4 47 = .ok (.istore_n 0, 1) := by decide +kernel
theorem dJ6_bitCount_0f7a4_48 : decode cJ6_bitCount_0f7a4 48 = .ok (.iload_n 0, 1) := by decide +kernel
theorem dJ6_bitCount_0f7a4_49 : decode cJ6_bitCount_0f7a4 49 = .ok (.bipush 63, 2) := by decide +kernel
theorem dJ6_bitCount_0f7a4_51 : decode cJ6_bitCount_0f7a4 51 = .ok (.iand, 1) := by decide +kernel
theorem dJ6_bitCount_0f7a4_52 : decode cJ6_bitCount_0f7a4 52 = .ok (.ireturn, 1) := by decide +kernel
theorem dJ0_length_8abf5_0 : decode cJ0_length_8abf5 0 = .ok (.aload_n 0, 1) := by decide +kernel
theorem dJ0_length_8abf5_1 : decode cJ0_length_8abf5 1 = .ok (.getfield 9, 3) := by decide +kernel
theorem dJ0_length_8abf5_4 : decode cJ0_length_8abf5 4 = .ok (.arraylength, 1) := by decide +kernel
theorem dJ0_length_8abf5_5 : decode cJ0_length_8abf5 5 = .ok (.aload_n 0, 1) := by decide +kernel
theorem dJ0_length_8abf5_6 : decode cJ0_length_8abf5 6 = .ok (.invokevirtual 335, 3) := by decide +kernel
theorem dJ0_length_8abf5_9 : decode cJ0_length_8abf5 9 = .ok (.ishr, 1) := by decide +kernel
theorem dJ0_length_8abf5_10 : decode cJ0_length_8abf5 10 = .ok (.ireturn, 1) := by decide +kernel
theorem dJ0_charAt_5068e_0 : decode cJ0_charAt_5068e 0 = .ok (.aload_n 0, 1) := by decide +kernel
theorem dJ0_charAt_5068e_1 : decode cJ0_charAt_5068e 1 = .ok (.invokevirtual 492, 3) := by decide +kernel
theorem dJ0_charAt_5068e_4 : decode cJ0_charAt_5068e 4 = .ok (.ifCond .eq 12, 3) := by decide +kernel
theorem dJ0_charAt_5068e_7 : decode cJ0_charAt_5068e 7 = .ok (.aload_n 0, 1) := by decide +kernel
theorem dJ0_charAt_5068e_8 : decode cJ0_charAt_5068e 8 = .ok (.getfield 9, 3) := by decide +kernel
theorem dJ0_charAt_5068e_11 : decode cJ0_charAt_5068e 11 = .ok (.iload_n 1, 1) := by decide +kernel
theorem dJ0_charAt_5068e_12 : decode cJ0_charAt_5068e 12 = .ok (.invokestatic 495, 3) := by decide +kernel
theorem dJ0_charAt_5068e_15 : decode cJ0_charAt_5068e 15 = .ok (.ireturn, 1) := by decide +kernel
theorem dJ0_charAt_5068e_16 : decode cJ0_charAt_5068e 16 = .ok (.aload_n 0, 1) := by decide +kernel
theorem dJ0_charAt_5068e_17 : decode cJ0_charAt_5068e 17 = .ok (.getfield 9, 3) := by decide +kernel
theorem dJ0_charAt_5068e_20 : decode cJ0_charAt_5068e 20 = .ok (.iload_n 1, 1) := by decide +kernel
theorem dJ0_charAt_5068e_21 : decode cJ0_charAt_5068e 21 = .ok (.invokestatic 498, 3) := by decide +kernel
theorem dJ0_charAt_5068e_24 : decode cJ0_charAt_5068e 24 = .ok (.ireturn, 1) := by decide +kernel
theorem dJ0_coder_7d493_0 : decode cJ0_coder_7d493 0 = .ok (.getstatic 38, 3) := by decide +kernel
theorem dJ0_coder_7d493_3 : decode cJ0_coder_7d493 3 = .ok (.ifCond .eq 10, 3) := by decide +kernel
theorem dJ0_coder_7d493_6 : decode cJ0_coder_7d493 6 = .ok (.aload_n 0, 1) := by decide +kernel
theorem dJ0_coder_7d493_7 : decode cJ0_coder_7d493 7 = .ok (.getfield 15, 3) := by decide +kernel
theorem dJ0_coder_7d493_10 : decode cJ0_coder_7d493 10 = .ok (.goto 4, 3) := by decide +kernel
theorem dJ0_coder_7d493_13 : decode cJ0_coder_7d493 13 = .ok (.iconst 1, 1) := by decide +kernel
theorem dJ0_coder_7d493_14 : decode cJ0_coder_7d493 14 = .ok (.ireturn, 1) := by decide +kernel
theorem dJ0_isLatin1_aae02_0 : decode cJ0_isLatin1_aae02 0 = .ok (.getstatic 38, 3) := by decide +kernel
theorem dJ0_isLatin1_aae02_3 : decode cJ0_isLatin1_aae02 3 = .ok (.ifCond .eq 14, 3) := by decide +kernel
theorem dJ0_isLatin1_aae02_6 : decode cJ0_isLatin1_aae02 6 = .ok (.aload_n 0, 1) := by decide +kernel
theorem dJ0_isLatin1_aae02_7 : decode cJ0_isLatin1_aae02 7 = .ok (.getfield 15, 3) := by decide +kernel
theorem dJ0_isLatin1_aae02_10 : decode cJ0_isLatin1_aae02 10 = .ok (.ifCond .ne 7, 3) := by decide +kernel
theorem dJ0_isLatin1_aae02_13 : decode cJ0_isLatin1_aae02 13 = .ok (.iconst 1, 1) := by decide +kernel
theorem dJ0_isLatin1_aae02_14 : decode cJ0_isLatin1_aae02 14 = .ok (.goto 4, 3) := by decide +kernel
theorem dJ0_isLatin1_aae02_17 : decode cJ0_isLatin1_aae02 17 = .ok (.iconst 0, 1) := by decide +kernel
theorem dJ0_isLatin1_aae02_18 : decode cJ0_isLatin1_aae02 18 = .ok (.ireturn, 1) := by decide +kernel
theorem dJ0_checkIndex_df160_0 : decode cJ0_checkIndex_df160 0 = .ok (.iload_n 0, 1) := by decide +kernel
theorem dJ0_checkIndex_df160_1 : decode cJ0_checkIndex_df160 1 = .ok (.iload_n 1, 1) := by decide +kernel
theorem dJ0_checkIndex_df160_2 : decode cJ0_checkIndex_df160 2 = .ok (.getstatic 1053, 3) := by decide +kernel
theorem dJ0_checkIndex_df160_5 : decode cJ0_checkIndex_df160 5 = .ok (.invokestatic 1059, 3) := by decide +kernel
theorem dJ0_checkIndex_df160_8 : decode cJ0_checkIndex_df160 8 = .ok (.pop, 1) := by decide +kernel
theorem dJ0_checkIndex_df160_9 : decode cJ0_checkIndex_df160 9 = .ok (.return_, 1) := by decide +kernel
theorem dJ1_charAt_3b067_0 : decode cJ1_charAt_3b067 0 = .ok (.iload_n 1, 1) := by decide +kernel
theorem dJ1_charAt_3b067_1 : decode cJ1_charAt_3b067 1 = .ok (.aload_n 0, 1) := by decide +kernel
theorem dJ1_charAt_3b067_2 : decode cJ1_charAt_3b067 2 = .ok (.arraylength, 1) := by decide +kernel
theorem dJ1_charAt_3b067_3 : decode cJ1_charAt_3b067 3 = .ok (.invokestatic 9, 3) := by decide +kernel
theorem dJ1_charAt_3b067_6 : decode cJ1_charAt_3b067 6 = .ok (.aload_n 0, 1) := by decide +kernel
theorem dJ1_charAt_3b067_7 : decode cJ1_charAt_3b067 7 = .ok (.iload_n 1, 1) := by decide +kernel
theorem dJ1_charAt_3b067_8 : decode cJ1_charAt_3b067 8 = .ok (.baload, 1) := by decide +kernel
theorem dJ1_charAt_3b067_9 : decode cJ1_charAt_3b067 9 = .ok (.sipush 255, 3) := by decide +kernel
theorem dJ1_charAt_3b067_12 : decode cJ1_charAt_3b067 12 = .ok (.iand, 1) := by decide +kernel
theorem dJ1_charAt_3b067_13 : decode cJ1_charAt_3b067 13 = .ok (.i2c, 1) := by decide +kernel
theorem dJ1_charAt_3b067_14 : decode cJ1_charAt_3b067 14 = .ok (.ireturn, 1) := by decide +kernel
theorem dJ3_checkIndex_8e157_0 : decode cJ3_checkIndex_8e157 0 = .ok (.iload_n 0, 1) := by decide +kernel
theorem dJ3_checkIndex_8e157_1 : decode cJ3_checkIndex_8e157 1 = .ok (.ifCond .lt 8, 3) := by decide +kernel
theorem dJ3_checkIndex_8e157_4 : decode cJ3_checkIndex_8e157 4 = .ok (.iload_n 0, 1) := by decide +kernel
theorem dJ3_checkIndex_8e157_5 : decode cJ3_checkIndex_8e157 5 = .ok (.iload_n 1, 1) := by decide +kernel
theorem dJ3_checkIndex_8e157_6 : decode cJ3_checkIndex_8e157 6 = .ok (.if_icmp .lt 10, 3) := by decide +kernel
theorem dJ3_checkIndex_8e157_9 : decode cJ3_checkIndex_8e157 9 = .ok (.aload_n 2, 1) := by decide +kernel
theorem dJ3_checkIndex_8e157_10 : decode cJ3_checkIndex_8e157 10 = .ok (.iload_n 0, 1) := by decide +kernel
theorem dJ3_checkIndex_8e157_11 : decode cJ3_checkIndex_8e157 11 = .ok (.iload_n 1, 1) := by decide +kernel
theorem dJ3_checkIndex_8e157_12 : decode cJ3_checkIndex_8e157 12 = .ok (.invokestatic 95, 3) := by decide +kernel
theorem dJ3_checkIndex_8e157_15 : decode cJ3_checkIndex_8e157 15 = .ok (.athrow, 1) := by decide +kernel
theorem dJ3_checkIndex_8e157_16 : decode cJ3_checkIndex_8e157 16 = .ok (.iload_n 0, 1) := by decide +kernel
theorem dJ3_checkIndex_8e157_17 : decode cJ3_checkIndex_8e157 17 = .ok (.ireturn, 1) := by decide +kernel
theorem dL_seller_0 : decode cL_seller 0 = .ok (.aload_n 3, 1) := by decide +kernel
theorem dL_seller_1 : decode cL_seller 1 = .ok (.iconst 0, 1) := by decide +kernel
theorem dL_seller_2 : decode cL_seller 2 = .ok (.aload_n 0, 1) := by decide +kernel
theorem dL_seller_3 : decode cL_seller 3 = .ok (.iload_n 1, 1) := by decide +kernel
theorem dL_seller_4 : decode cL_seller 4 = .ok (.iload_n 2, 1) := by decide +kernel
theorem dL_seller_5 : decode cL_seller 5 = .ok (.invokevirtual 7, 3) := by decide +kernel
theorem dL_seller_8 : decode cL_seller 8 = .ok (.i2l, 1) := by decide +kernel
theorem dL_seller_9 : decode cL_seller 9 = .ok (.lastore, 1) := by decide +kernel
theorem dL_seller_10 : decode cL_seller 10 = .ok (.goto 7, 3) := by decide +kernel
theorem dL_seller_13 : decode cL_seller 13 = .ok (.astore 4, 2) := by decide +kernel
theorem dL_seller_15 : decode cL_seller 15 = .ok (.iconst 1, 1) := by decide +kernel
theorem dL_seller_16 : decode cL_seller 16 = .ok (.ireturn, 1) := by decide +kernel
theorem dL_seller_17 : decode cL_seller 17 = .ok (.iconst 0, 1) := by decide +kernel
theorem dL_seller_18 : decode cL_seller 18 = .ok (.ireturn, 1) := by decide +kernel
theorem dL_law_0 : decode cL_law 0 = .ok (.new 8, 3) := by decide +kernel
theorem dL_law_3 : decode cL_law 3 = .ok (.dup, 1) := by decide +kernel
theorem dL_law_4 : decode cL_law 4 = .ok (.invokespecial 15, 3) := by decide +kernel
theorem dL_law_7 : decode cL_law 7 = .ok (.astore_n 1, 1) := by decide +kernel
theorem dL_law_8 : decode cL_law 8 = .ok (.new 16, 3) := by decide +kernel
theorem dL_law_11 : decode cL_law 11 = .ok (.dup, 1) := by decide +kernel
theorem dL_law_12 : decode cL_law 12 = .ok (.invokespecial 18, 3) := by decide +kernel
theorem dL_law_15 : decode cL_law 15 = .ok (.astore_n 2, 1) := by decide +kernel
theorem dL_law_16 : decode cL_law 16 = .ok (.iconst 1, 1) := by decide +kernel
theorem dL_law_17 : decode cL_law 17 = .ok (.newarray .long, 2) := by decide +kernel
theorem dL_law_19 : decode cL_law 19 = .ok (.astore_n 3, 1) := by decide +kernel
theorem dL_law_20 : decode cL_law 20 = .ok (.iconst 0, 1) := by decide +kernel
theorem dL_law_21 : decode cL_law 21 = .ok (.istore 4, 2) := by decide +kernel
theorem dL_law_23 : decode cL_law 23 = .ok (.iload 4, 2) := by decide +kernel
theorem dL_law_25 : decode cL_law 25 = .ok (.aload_n 0, 1) := by decide +kernel
theorem dL_law_26 : decode cL_law 26 = .ok (.arraylength, 1) := by decide +kernel
theorem dL_law_27 : decode cL_law 27 = .ok (.bipush 6, 2) := by decide +kernel
theorem dL_law_29 : decode cL_law 29 = .ok (.isub, 1) := by decide +kernel
theorem dL_law_30 : decode cL_law 30 = .ok (.if_icmp .gt 1474, 3) := by decide +kernel
theorem dL_law_33 : decode cL_law 33 = .ok (.aload_n 0, 1) := by decide +kernel
theorem dL_law_34 : decode cL_law 34 = .ok (.iload 4, 2) := by decide +kernel
theorem dL_law_36 : decode cL_law 36 = .ok (.iaload, 1) := by decide +kernel
theorem dL_law_37 : decode cL_law 37 = .ok (.bipush 63, 2) := by decide +kernel
theorem dL_law_39 : decode cL_law 39 = .ok (.iand, 1) := by decide +kernel
theorem dL_law_40 : decode cL_law 40 = .ok (.tableswitch 1458 0 34 #[156, 229, 254, 279, 304, 372, 409, 446, 499, 524, 581, 606, 631, 668, 693, 742, 767, 816, 853, 890, 939, 976, 1001, 1050, 1099, 1136, 1173, 1210, 1247, 1296, 1333, 1370, 1407, 1420, 1433], 156) := by decide +kernel
theorem dL_law_196 : decode cL_law 196 = .ok (.aload_n 1, 1) := by decide +kernel
theorem dL_law_197 : decode cL_law 197 = .ok (.aload_n 0, 1) := by decide +kernel
theorem dL_law_198 : decode cL_law 198 = .ok (.iload 4, 2) := by decide +kernel
theorem dL_law_200 : decode cL_law 200 = .ok (.iconst 1, 1) := by decide +kernel
theorem dL_law_201 : decode cL_law 201 = .ok (.iadd, 1) := by decide +kernel
theorem dL_law_202 : decode cL_law 202 = .ok (.iaload, 1) := by decide +kernel
theorem dL_law_203 : decode cL_law 203 = .ok (.aload_n 0, 1) := by decide +kernel
theorem dL_law_204 : decode cL_law 204 = .ok (.iload 4, 2) := by decide +kernel
theorem dL_law_206 : decode cL_law 206 = .ok (.iconst 2, 1) := by decide +kernel
theorem dL_law_207 : decode cL_law 207 = .ok (.iadd, 1) := by decide +kernel
theorem dL_law_208 : decode cL_law 208 = .ok (.iaload, 1) := by decide +kernel
theorem dL_law_209 : decode cL_law 209 = .ok (.aload_n 0, 1) := by decide +kernel
theorem dL_law_210 : decode cL_law 210 = .ok (.iload 4, 2) := by decide +kernel
theorem dL_law_212 : decode cL_law 212 = .ok (.iconst 3, 1) := by decide +kernel
theorem dL_law_213 : decode cL_law 213 = .ok (.iadd, 1) := by decide +kernel
theorem dL_law_214 : decode cL_law 214 = .ok (.iaload, 1) := by decide +kernel
theorem dL_law_215 : decode cL_law 215 = .ok (.aload_n 0, 1) := by decide +kernel
theorem dL_law_216 : decode cL_law 216 = .ok (.iload 4, 2) := by decide +kernel
theorem dL_law_218 : decode cL_law 218 = .ok (.iconst 4, 1) := by decide +kernel
theorem dL_law_219 : decode cL_law 219 = .ok (.iadd, 1) := by decide +kernel
theorem dL_law_220 : decode cL_law 220 = .ok (.iaload, 1) := by decide +kernel
theorem dL_law_221 : decode cL_law 221 = .ok (.aload_n 0, 1) := by decide +kernel
theorem dL_law_222 : decode cL_law 222 = .ok (.iload 4, 2) := by decide +kernel
theorem dL_law_224 : decode cL_law 224 = .ok (.iconst 5, 1) := by decide +kernel
theorem dL_law_225 : decode cL_law 225 = .ok (.iadd, 1) := by decide +kernel
theorem dL_law_226 : decode cL_law 226 = .ok (.iaload, 1) := by decide +kernel
theorem dL_law_227 : decode cL_law 227 = .ok (.invokevirtual 19, 3) := by decide +kernel
theorem dL_law_230 : decode cL_law 230 = .ok (.aload_n 2, 1) := by decide +kernel
theorem dL_law_231 : decode cL_law 231 = .ok (.aload_n 0, 1) := by decide +kernel
theorem dL_law_232 : decode cL_law 232 = .ok (.iload 4, 2) := by decide +kernel
theorem dL_law_234 : decode cL_law 234 = .ok (.iconst 1, 1) := by decide +kernel
theorem dL_law_235 : decode cL_law 235 = .ok (.iadd, 1) := by decide +kernel
theorem dL_law_236 : decode cL_law 236 = .ok (.iaload, 1) := by decide +kernel
theorem dL_law_237 : decode cL_law 237 = .ok (.aload_n 0, 1) := by decide +kernel
theorem dL_law_238 : decode cL_law 238 = .ok (.iload 4, 2) := by decide +kernel
theorem dL_law_240 : decode cL_law 240 = .ok (.iconst 2, 1) := by decide +kernel
theorem dL_law_241 : decode cL_law 241 = .ok (.iadd, 1) := by decide +kernel
theorem dL_law_242 : decode cL_law 242 = .ok (.iaload, 1) := by decide +kernel
theorem dL_law_243 : decode cL_law 243 = .ok (.aload_n 0, 1) := by decide +kernel
theorem dL_law_244 : decode cL_law 244 = .ok (.iload 4, 2) := by decide +kernel
theorem dL_law_246 : decode cL_law 246 = .ok (.iconst 3, 1) := by decide +kernel
theorem dL_law_247 : decode cL_law 247 = .ok (.iadd, 1) := by decide +kernel
theorem dL_law_248 : decode cL_law 248 = .ok (.iaload, 1) := by decide +kernel
theorem dL_law_249 : decode cL_law 249 = .ok (.aload_n 0, 1) := by decide +kernel
theorem dL_law_250 : decode cL_law 250 = .ok (.iload 4, 2) := by decide +kernel
theorem dL_law_252 : decode cL_law 252 = .ok (.iconst 4, 1) := by decide +kernel
theorem dL_law_253 : decode cL_law 253 = .ok (.iadd, 1) := by decide +kernel
theorem dL_law_254 : decode cL_law 254 = .ok (.iaload, 1) := by decide +kernel
theorem dL_law_255 : decode cL_law 255 = .ok (.aload_n 0, 1) := by decide +kernel
theorem dL_law_256 : decode cL_law 256 = .ok (.iload 4, 2) := by decide +kernel
theorem dL_law_258 : decode cL_law 258 = .ok (.iconst 5, 1) := by decide +kernel
theorem dL_law_259 : decode cL_law 259 = .ok (.iadd, 1) := by decide +kernel
theorem dL_law_260 : decode cL_law 260 = .ok (.iaload, 1) := by decide +kernel
theorem dL_law_261 : decode cL_law 261 = .ok (.invokevirtual 23, 3) := by decide +kernel
theorem dL_law_264 : decode cL_law 264 = .ok (.if_icmp .eq 1234, 3) := by decide +kernel
theorem dL_law_267 : decode cL_law 267 = .ok (.iconst 0, 1) := by decide +kernel
theorem dL_law_268 : decode cL_law 268 = .ok (.ireturn, 1) := by decide +kernel
theorem dL_law_269 : decode cL_law 269 = .ok (.aload_n 1, 1) := by decide +kernel
theorem dL_law_270 : decode cL_law 270 = .ok (.aload_n 0, 1) := by decide +kernel
theorem dL_law_271 : decode cL_law 271 = .ok (.iload 4, 2) := by decide +kernel
theorem dL_law_273 : decode cL_law 273 = .ok (.iconst 1, 1) := by decide +kernel
theorem dL_law_274 : decode cL_law 274 = .ok (.iadd, 1) := by decide +kernel
theorem dL_law_275 : decode cL_law 275 = .ok (.iaload, 1) := by decide +kernel
theorem dL_law_276 : decode cL_law 276 = .ok (.invokevirtual 24, 3) := by decide +kernel
theorem dL_law_279 : decode cL_law 279 = .ok (.aload_n 2, 1) := by decide +kernel
theorem dL_law_280 : decode cL_law 280 = .ok (.aload_n 0, 1) := by decide +kernel
theorem dL_law_281 : decode cL_law 281 = .ok (.iload 4, 2) := by decide +kernel
theorem dL_law_283 : decode cL_law 283 = .ok (.iconst 1, 1) := by decide +kernel
theorem dL_law_284 : decode cL_law 284 = .ok (.iadd, 1) := by decide +kernel
theorem dL_law_285 : decode cL_law 285 = .ok (.iaload, 1) := by decide +kernel
theorem dL_law_286 : decode cL_law 286 = .ok (.invokevirtual 28, 3) := by decide +kernel
theorem dL_law_289 : decode cL_law 289 = .ok (.if_icmp .eq 1209, 3) := by decide +kernel
theorem dL_law_292 : decode cL_law 292 = .ok (.iconst 0, 1) := by decide +kernel
theorem dL_law_293 : decode cL_law 293 = .ok (.ireturn, 1) := by decide +kernel
theorem dL_law_294 : decode cL_law 294 = .ok (.aload_n 1, 1) := by decide +kernel
theorem dL_law_295 : decode cL_law 295 = .ok (.aload_n 0, 1) := by decide +kernel
theorem dL_law_296 : decode cL_law 296 = .ok (.iload 4, 2) := by decide +kernel
theorem dL_law_298 : decode cL_law 298 = .ok (.iconst 1, 1) := by decide +kernel
theorem dL_law_299 : decode cL_law 299 = .ok (.iadd, 1) := by decide +kernel
theorem dL_law_300 : decode cL_law 300 = .ok (.iaload, 1) := by decide +kernel
theorem dL_law_301 : decode cL_law 301 = .ok (.invokevirtual 29, 3) := by decide +kernel
theorem dL_law_304 : decode cL_law 304 = .ok (.aload_n 2, 1) := by decide +kernel
theorem dL_law_305 : decode cL_law 305 = .ok (.aload_n 0, 1) := by decide +kernel
theorem dL_law_306 : decode cL_law 306 = .ok (.iload 4, 2) := by decide +kernel
theorem dL_law_308 : decode cL_law 308 = .ok (.iconst 1, 1) := by decide +kernel
theorem dL_law_309 : decode cL_law 309 = .ok (.iadd, 1) := by decide +kernel
theorem dL_law_310 : decode cL_law 310 = .ok (.iaload, 1) := by decide +kernel
theorem dL_law_311 : decode cL_law 311 = .ok (.invokevirtual 33, 3) := by decide +kernel
theorem dL_law_314 : decode cL_law 314 = .ok (.if_icmp .eq 1184, 3) := by decide +kernel
theorem dL_law_317 : decode cL_law 317 = .ok (.iconst 0, 1) := by decide +kernel
theorem dL_law_318 : decode cL_law 318 = .ok (.ireturn, 1) := by decide +kernel
theorem dL_law_319 : decode cL_law 319 = .ok (.aload_n 1, 1) := by decide +kernel
theorem dL_law_320 : decode cL_law 320 = .ok (.aload_n 0, 1) := by decide +kernel
theorem dL_law_321 : decode cL_law 321 = .ok (.iload 4, 2) := by decide +kernel
theorem dL_law_323 : decode cL_law 323 = .ok (.iconst 1, 1) := by decide +kernel
theorem dL_law_324 : decode cL_law 324 = .ok (.iadd, 1) := by decide +kernel
theorem dL_law_325 : decode cL_law 325 = .ok (.iaload, 1) := by decide +kernel
theorem dL_law_326 : decode cL_law 326 = .ok (.invokevirtual 34, 3) := by decide +kernel
theorem dL_law_329 : decode cL_law 329 = .ok (.aload_n 2, 1) := by decide +kernel
theorem dL_law_330 : decode cL_law 330 = .ok (.aload_n 0, 1) := by decide +kernel
theorem dL_law_331 : decode cL_law 331 = .ok (.iload 4, 2) := by decide +kernel
theorem dL_law_333 : decode cL_law 333 = .ok (.iconst 1, 1) := by decide +kernel
theorem dL_law_334 : decode cL_law 334 = .ok (.iadd, 1) := by decide +kernel
theorem dL_law_335 : decode cL_law 335 = .ok (.iaload, 1) := by decide +kernel
theorem dL_law_336 : decode cL_law 336 = .ok (.invokevirtual 37, 3) := by decide +kernel
theorem dL_law_339 : decode cL_law 339 = .ok (.if_icmp .eq 1159, 3) := by decide +kernel
theorem dL_law_342 : decode cL_law 342 = .ok (.iconst 0, 1) := by decide +kernel
theorem dL_law_343 : decode cL_law 343 = .ok (.ireturn, 1) := by decide +kernel
theorem dL_law_344 : decode cL_law 344 = .ok (.aload_n 1, 1) := by decide +kernel
theorem dL_law_345 : decode cL_law 345 = .ok (.aload_n 0, 1) := by decide +kernel
theorem dL_law_346 : decode cL_law 346 = .ok (.iload 4, 2) := by decide +kernel
theorem dL_law_348 : decode cL_law 348 = .ok (.iconst 1, 1) := by decide +kernel
theorem dL_law_349 : decode cL_law 349 = .ok (.iadd, 1) := by decide +kernel
theorem dL_law_350 : decode cL_law 350 = .ok (.iaload, 1) := by decide +kernel
theorem dL_law_351 : decode cL_law 351 = .ok (.aload_n 0, 1) := by decide +kernel
theorem dL_law_352 : decode cL_law 352 = .ok (.iload 4, 2) := by decide +kernel
theorem dL_law_354 : decode cL_law 354 = .ok (.iconst 2, 1) := by decide +kernel
theorem dL_law_355 : decode cL_law 355 = .ok (.iadd, 1) := by decide +kernel
theorem dL_law_356 : decode cL_law 356 = .ok (.iaload, 1) := by decide +kernel
theorem dL_law_357 : decode cL_law 357 = .ok (.aload_n 3, 1) := by decide +kernel
theorem dL_law_358 : decode cL_law 358 = .ok (.invokestatic 38, 3) := by decide +kernel
theorem dL_law_361 : decode cL_law 361 = .ok (.istore 5, 2) := by decide +kernel
theorem dL_law_363 : decode cL_law 363 = .ok (.aload_n 2, 1) := by decide +kernel
theorem dL_law_364 : decode cL_law 364 = .ok (.aload_n 0, 1) := by decide +kernel
theorem dL_law_365 : decode cL_law 365 = .ok (.iload 4, 2) := by decide +kernel
theorem dL_law_367 : decode cL_law 367 = .ok (.iconst 1, 1) := by decide +kernel
theorem dL_law_368 : decode cL_law 368 = .ok (.iadd, 1) := by decide +kernel
theorem dL_law_369 : decode cL_law 369 = .ok (.iaload, 1) := by decide +kernel
theorem dL_law_370 : decode cL_law 370 = .ok (.aload_n 0, 1) := by decide +kernel
theorem dL_law_371 : decode cL_law 371 = .ok (.iload 4, 2) := by decide +kernel
theorem dL_law_373 : decode cL_law 373 = .ok (.iconst 2, 1) := by decide +kernel
theorem dL_law_374 : decode cL_law 374 = .ok (.iadd, 1) := by decide +kernel
theorem dL_law_375 : decode cL_law 375 = .ok (.iaload, 1) := by decide +kernel
theorem dL_law_376 : decode cL_law 376 = .ok (.invokevirtual 43, 3) := by decide +kernel
theorem dL_law_379 : decode cL_law 379 = .ok (.istore 6, 2) := by decide +kernel
theorem dL_law_381 : decode cL_law 381 = .ok (.aload_n 2, 1) := by decide +kernel
theorem dL_law_382 : decode cL_law 382 = .ok (.invokevirtual 44, 3) := by decide +kernel
theorem dL_law_385 : decode cL_law 385 = .ok (.iload 5, 2) := by decide +kernel
theorem dL_law_387 : decode cL_law 387 = .ok (.if_icmp .eq 5, 3) := by decide +kernel
theorem dL_law_390 : decode cL_law 390 = .ok (.iconst 0, 1) := by decide +kernel
theorem dL_law_391 : decode cL_law 391 = .ok (.ireturn, 1) := by decide +kernel
theorem dL_law_392 : decode cL_law 392 = .ok (.iload 5, 2) := by decide +kernel
theorem dL_law_394 : decode cL_law 394 = .ok (.ifCond .ne 15, 3) := by decide +kernel
theorem dL_law_397 : decode cL_law 397 = .ok (.aload_n 3, 1) := by decide +kernel
theorem dL_law_398 : decode cL_law 398 = .ok (.iconst 0, 1) := by decide +kernel
theorem dL_law_399 : decode cL_law 399 = .ok (.laload, 1) := by decide +kernel
theorem dL_law_400 : decode cL_law 400 = .ok (.iload 6, 2) := by decide +kernel
theorem dL_law_402 : decode cL_law 402 = .ok (.i2l, 1) := by decide +kernel
theorem dL_law_403 : decode cL_law 403 = .ok (.lcmp, 1) := by decide +kernel
theorem dL_law_404 : decode cL_law 404 = .ok (.ifCond .eq 5, 3) := by decide +kernel
theorem dL_law_407 : decode cL_law 407 = .ok (.iconst 0, 1) := by decide +kernel
theorem dL_law_408 : decode cL_law 408 = .ok (.ireturn, 1) := by decide +kernel
theorem dL_law_409 : decode cL_law 409 = .ok (.goto 1089, 3) := by decide +kernel
theorem dL_law_412 : decode cL_law 412 = .ok (.aload_n 1, 1) := by decide +kernel
theorem dL_law_413 : decode cL_law 413 = .ok (.aload_n 0, 1) := by decide +kernel
theorem dL_law_414 : decode cL_law 414 = .ok (.iload 4, 2) := by decide +kernel
theorem dL_law_416 : decode cL_law 416 = .ok (.iconst 1, 1) := by decide +kernel
theorem dL_law_417 : decode cL_law 417 = .ok (.iadd, 1) := by decide +kernel
theorem dL_law_418 : decode cL_law 418 = .ok (.iaload, 1) := by decide +kernel
theorem dL_law_419 : decode cL_law 419 = .ok (.aload_n 0, 1) := by decide +kernel
theorem dL_law_420 : decode cL_law 420 = .ok (.iload 4, 2) := by decide +kernel
theorem dL_law_422 : decode cL_law 422 = .ok (.iconst 2, 1) := by decide +kernel
theorem dL_law_423 : decode cL_law 423 = .ok (.iadd, 1) := by decide +kernel
theorem dL_law_424 : decode cL_law 424 = .ok (.iaload, 1) := by decide +kernel
theorem dL_law_425 : decode cL_law 425 = .ok (.invokevirtual 48, 3) := by decide +kernel
theorem dL_law_428 : decode cL_law 428 = .ok (.aload_n 2, 1) := by decide +kernel
theorem dL_law_429 : decode cL_law 429 = .ok (.aload_n 0, 1) := by decide +kernel
theorem dL_law_430 : decode cL_law 430 = .ok (.iload 4, 2) := by decide +kernel
theorem dL_law_432 : decode cL_law 432 = .ok (.iconst 1, 1) := by decide +kernel
theorem dL_law_433 : decode cL_law 433 = .ok (.iadd, 1) := by decide +kernel
theorem dL_law_434 : decode cL_law 434 = .ok (.iaload, 1) := by decide +kernel
theorem dL_law_435 : decode cL_law 435 = .ok (.aload_n 0, 1) := by decide +kernel
theorem dL_law_436 : decode cL_law 436 = .ok (.iload 4, 2) := by decide +kernel
theorem dL_law_438 : decode cL_law 438 = .ok (.iconst 2, 1) := by decide +kernel
theorem dL_law_439 : decode cL_law 439 = .ok (.iadd, 1) := by decide +kernel
theorem dL_law_440 : decode cL_law 440 = .ok (.iaload, 1) := by decide +kernel
theorem dL_law_441 : decode cL_law 441 = .ok (.invokevirtual 51, 3) := by decide +kernel
theorem dL_law_444 : decode cL_law 444 = .ok (.if_icmp .eq 1054, 3) := by decide +kernel
theorem dL_law_447 : decode cL_law 447 = .ok (.iconst 0, 1) := by decide +kernel
theorem dL_law_448 : decode cL_law 448 = .ok (.ireturn, 1) := by decide +kernel
theorem dL_law_449 : decode cL_law 449 = .ok (.aload_n 1, 1) := by decide +kernel
theorem dL_law_450 : decode cL_law 450 = .ok (.aload_n 0, 1) := by decide +kernel
theorem dL_law_451 : decode cL_law 451 = .ok (.iload 4, 2) := by decide +kernel
theorem dL_law_453 : decode cL_law 453 = .ok (.iconst 1, 1) := by decide +kernel
theorem dL_law_454 : decode cL_law 454 = .ok (.iadd, 1) := by decide +kernel
theorem dL_law_455 : decode cL_law 455 = .ok (.iaload, 1) := by decide +kernel
theorem dL_law_456 : decode cL_law 456 = .ok (.aload_n 0, 1) := by decide +kernel
theorem dL_law_457 : decode cL_law 457 = .ok (.iload 4, 2) := by decide +kernel
theorem dL_law_459 : decode cL_law 459 = .ok (.iconst 2, 1) := by decide +kernel
theorem dL_law_460 : decode cL_law 460 = .ok (.iadd, 1) := by decide +kernel
theorem dL_law_461 : decode cL_law 461 = .ok (.iaload, 1) := by decide +kernel
theorem dL_law_462 : decode cL_law 462 = .ok (.invokevirtual 52, 3) := by decide +kernel
theorem dL_law_465 : decode cL_law 465 = .ok (.aload_n 2, 1) := by decide +kernel
theorem dL_law_466 : decode cL_law 466 = .ok (.aload_n 0, 1) := by decide +kernel
theorem dL_law_467 : decode cL_law 467 = .ok (.iload 4, 2) := by decide +kernel
theorem dL_law_469 : decode cL_law 469 = .ok (.iconst 1, 1) := by decide +kernel
theorem dL_law_470 : decode cL_law 470 = .ok (.iadd, 1) := by decide +kernel
theorem dL_law_471 : decode cL_law 471 = .ok (.iaload, 1) := by decide +kernel
theorem dL_law_472 : decode cL_law 472 = .ok (.aload_n 0, 1) := by decide +kernel
theorem dL_law_473 : decode cL_law 473 = .ok (.iload 4, 2) := by decide +kernel
theorem dL_law_475 : decode cL_law 475 = .ok (.iconst 2, 1) := by decide +kernel
theorem dL_law_476 : decode cL_law 476 = .ok (.iadd, 1) := by decide +kernel
theorem dL_law_477 : decode cL_law 477 = .ok (.iaload, 1) := by decide +kernel
theorem dL_law_478 : decode cL_law 478 = .ok (.invokevirtual 56, 3) := by decide +kernel
theorem dL_law_481 : decode cL_law 481 = .ok (.if_icmp .eq 1017, 3) := by decide +kernel
theorem dL_law_484 : decode cL_law 484 = .ok (.iconst 0, 1) := by decide +kernel
theorem dL_law_485 : decode cL_law 485 = .ok (.ireturn, 1) := by decide +kernel
theorem dL_law_486 : decode cL_law 486 = .ok (.aload_n 1, 1) := by decide +kernel
theorem dL_law_487 : decode cL_law 487 = .ok (.aload_n 0, 1) := by decide +kernel
theorem dL_law_488 : decode cL_law 488 = .ok (.iload 4, 2) := by decide +kernel
theorem dL_law_490 : decode cL_law 490 = .ok (.iconst 1, 1) := by decide +kernel
theorem dL_law_491 : decode cL_law 491 = .ok (.iadd, 1) := by decide +kernel
theorem dL_law_492 : decode cL_law 492 = .ok (.iaload, 1) := by decide +kernel
theorem dL_law_493 : decode cL_law 493 = .ok (.aload_n 0, 1) := by decide +kernel
theorem dL_law_494 : decode cL_law 494 = .ok (.iload 4, 2) := by decide +kernel
theorem dL_law_496 : decode cL_law 496 = .ok (.iconst 2, 1) := by decide +kernel
theorem dL_law_497 : decode cL_law 497 = .ok (.iadd, 1) := by decide +kernel
theorem dL_law_498 : decode cL_law 498 = .ok (.iaload, 1) := by decide +kernel
theorem dL_law_499 : decode cL_law 499 = .ok (.ifCond .eq 7, 3) := by decide +kernel
theorem dL_law_502 : decode cL_law 502 = .ok (.iconst 1, 1) := by decide +kernel
theorem dL_law_503 : decode cL_law 503 = .ok (.goto 4, 3) := by decide +kernel
theorem dL_law_506 : decode cL_law 506 = .ok (.iconst 0, 1) := by decide +kernel
theorem dL_law_507 : decode cL_law 507 = .ok (.invokevirtual 57, 3) := by decide +kernel
theorem dL_law_510 : decode cL_law 510 = .ok (.aload_n 2, 1) := by decide +kernel
theorem dL_law_511 : decode cL_law 511 = .ok (.aload_n 0, 1) := by decide +kernel
theorem dL_law_512 : decode cL_law 512 = .ok (.iload 4, 2) := by decide +kernel
theorem dL_law_514 : decode cL_law 514 = .ok (.iconst 1, 1) := by decide +kernel
theorem dL_law_515 : decode cL_law 515 = .ok (.iadd, 1) := by decide +kernel
theorem dL_law_516 : decode cL_law 516 = .ok (.iaload, 1) := by decide +kernel
theorem dL_law_517 : decode cL_law 517 = .ok (.aload_n 0, 1) := by decide +kernel
theorem dL_law_518 : decode cL_law 518 = .ok (.iload 4, 2) := by decide +kernel
theorem dL_law_520 : decode cL_law 520 = .ok (.iconst 2, 1) := by decide +kernel
theorem dL_law_521 : decode cL_law 521 = .ok (.iadd, 1) := by decide +kernel
theorem dL_law_522 : decode cL_law 522 = .ok (.iaload, 1) := by decide +kernel
theorem dL_law_523 : decode cL_law 523 = .ok (.ifCond .eq 7, 3) := by decide +kernel
theorem dL_law_526 : decode cL_law 526 = .ok (.iconst 1, 1) := by decide +kernel
theorem dL_law_527 : decode cL_law 527 = .ok (.goto 4, 3) := by decide +kernel
theorem dL_law_530 : decode cL_law 530 = .ok (.iconst 0, 1) := by decide +kernel
theorem dL_law_531 : decode cL_law 531 = .ok (.invokevirtual 61, 3) := by decide +kernel
theorem dL_law_534 : decode cL_law 534 = .ok (.if_icmp .eq 964, 3) := by decide +kernel
theorem dL_law_537 : decode cL_law 537 = .ok (.iconst 0, 1) := by decide +kernel
theorem dL_law_538 : decode cL_law 538 = .ok (.ireturn, 1) := by decide +kernel
theorem dL_law_539 : decode cL_law 539 = .ok (.aload_n 1, 1) := by decide +kernel
theorem dL_law_540 : decode cL_law 540 = .ok (.aload_n 0, 1) := by decide +kernel
theorem dL_law_541 : decode cL_law 541 = .ok (.iload 4, 2) := by decide +kernel
theorem dL_law_543 : decode cL_law 543 = .ok (.iconst 1, 1) := by decide +kernel
theorem dL_law_544 : decode cL_law 544 = .ok (.iadd, 1) := by decide +kernel
theorem dL_law_545 : decode cL_law 545 = .ok (.iaload, 1) := by decide +kernel
theorem dL_law_546 : decode cL_law 546 = .ok (.invokevirtual 62, 3) := by decide +kernel
theorem dL_law_549 : decode cL_law 549 = .ok (.aload_n 2, 1) := by decide +kernel
theorem dL_law_550 : decode cL_law 550 = .ok (.aload_n 0, 1) := by decide +kernel
theorem dL_law_551 : decode cL_law 551 = .ok (.iload 4, 2) := by decide +kernel
theorem dL_law_553 : decode cL_law 553 = .ok (.iconst 1, 1) := by decide +kernel
theorem dL_law_554 : decode cL_law 554 = .ok (.iadd, 1) := by decide +kernel
theorem dL_law_555 : decode cL_law 555 = .ok (.iaload, 1) := by decide +kernel
theorem dL_law_556 : decode cL_law 556 = .ok (.invokevirtual 65, 3) := by decide +kernel
theorem dL_law_559 : decode cL_law 559 = .ok (.if_icmp .eq 939, 3) := by decide +kernel
theorem dL_law_562 : decode cL_law 562 = .ok (.iconst 0, 1) := by decide +kernel
theorem dL_law_563 : decode cL_law 563 = .ok (.ireturn, 1) := by decide +kernel
theorem dL_law_564 : decode cL_law 564 = .ok (.aload_n 1, 1) := by decide +kernel
theorem dL_law_565 : decode cL_law 565 = .ok (.aload_n 0, 1) := by decide +kernel
theorem dL_law_566 : decode cL_law 566 = .ok (.iload 4, 2) := by decide +kernel
theorem dL_law_568 : decode cL_law 568 = .ok (.iconst 1, 1) := by decide +kernel
theorem dL_law_569 : decode cL_law 569 = .ok (.iadd, 1) := by decide +kernel
theorem dL_law_570 : decode cL_law 570 = .ok (.iaload, 1) := by decide +kernel
theorem dL_law_571 : decode cL_law 571 = .ok (.i2l, 1) := by decide +kernel
theorem dL_law_572 : decode cL_law 572 = .ok (.bipush 32, 2) := by decide +kernel
theorem dL_law_574 : decode cL_law 574 = .ok (.lshl, 1) := by decide +kernel
theorem dL_law_575 : decode cL_law 575 = .ok (.aload_n 0, 1) := by decide +kernel
theorem dL_law_576 : decode cL_law 576 = .ok (.iload 4, 2) := by decide +kernel
theorem dL_law_578 : decode cL_law 578 = .ok (.iconst 2, 1) := by decide +kernel
theorem dL_law_579 : decode cL_law 579 = .ok (.iadd, 1) := by decide +kernel
theorem dL_law_580 : decode cL_law 580 = .ok (.iaload, 1) := by decide +kernel
theorem dL_law_581 : decode cL_law 581 = .ok (.i2l, 1) := by decide +kernel
theorem dL_law_582 : decode cL_law 582 = .ok (.ldc2_w 66, 3) := by decide +kernel
theorem dL_law_585 : decode cL_law 585 = .ok (.land, 1) := by decide +kernel
theorem dL_law_586 : decode cL_law 586 = .ok (.lor, 1) := by decide +kernel
theorem dL_law_587 : decode cL_law 587 = .ok (.invokevirtual 68, 3) := by decide +kernel
theorem dL_law_590 : decode cL_law 590 = .ok (.aload_n 2, 1) := by decide +kernel
theorem dL_law_591 : decode cL_law 591 = .ok (.aload_n 0, 1) := by decide +kernel
theorem dL_law_592 : decode cL_law 592 = .ok (.iload 4, 2) := by decide +kernel
theorem dL_law_594 : decode cL_law 594 = .ok (.iconst 1, 1) := by decide +kernel
theorem dL_law_595 : decode cL_law 595 = .ok (.iadd, 1) := by decide +kernel
theorem dL_law_596 : decode cL_law 596 = .ok (.iaload, 1) := by decide +kernel
theorem dL_law_597 : decode cL_law 597 = .ok (.i2l, 1) := by decide +kernel
theorem dL_law_598 : decode cL_law 598 = .ok (.bipush 32, 2) := by decide +kernel
theorem dL_law_600 : decode cL_law 600 = .ok (.lshl, 1) := by decide +kernel
theorem dL_law_601 : decode cL_law 601 = .ok (.aload_n 0, 1) := by decide +kernel
theorem dL_law_602 : decode cL_law 602 = .ok (.iload 4, 2) := by decide +kernel
theorem dL_law_604 : decode cL_law 604 = .ok (.iconst 2, 1) := by decide +kernel
theorem dL_law_605 : decode cL_law 605 = .ok (.iadd, 1) := by decide +kernel
theorem dL_law_606 : decode cL_law 606 = .ok (.iaload, 1) := by decide +kernel
theorem dL_law_607 : decode cL_law 607 = .ok (.i2l, 1) := by decide +kernel
theorem dL_law_608 : decode cL_law 608 = .ok (.ldc2_w 66, 3) := by decide +kernel
theorem dL_law_611 : decode cL_law 611 = .ok (.land, 1) := by decide +kernel
theorem dL_law_612 : decode cL_law 612 = .ok (.lor, 1) := by decide +kernel
theorem dL_law_613 : decode cL_law 613 = .ok (.invokevirtual 72, 3) := by decide +kernel
theorem dL_law_616 : decode cL_law 616 = .ok (.if_icmp .eq 882, 3) := by decide +kernel
theorem dL_law_619 : decode cL_law 619 = .ok (.iconst 0, 1) := by decide +kernel
theorem dL_law_620 : decode cL_law 620 = .ok (.ireturn, 1) := by decide +kernel
theorem dL_law_621 : decode cL_law 621 = .ok (.aload_n 1, 1) := by decide +kernel
theorem dL_law_622 : decode cL_law 622 = .ok (.aload_n 0, 1) := by decide +kernel
theorem dL_law_623 : decode cL_law 623 = .ok (.iload 4, 2) := by decide +kernel
theorem dL_law_625 : decode cL_law 625 = .ok (.iconst 1, 1) := by decide +kernel
theorem dL_law_626 : decode cL_law 626 = .ok (.iadd, 1) := by decide +kernel
theorem dL_law_627 : decode cL_law 627 = .ok (.iaload, 1) := by decide +kernel
theorem dL_law_628 : decode cL_law 628 = .ok (.invokevirtual 73, 3) := by decide +kernel
theorem dL_law_631 : decode cL_law 631 = .ok (.aload_n 2, 1) := by decide +kernel
theorem dL_law_632 : decode cL_law 632 = .ok (.aload_n 0, 1) := by decide +kernel
theorem dL_law_633 : decode cL_law 633 = .ok (.iload 4, 2) := by decide +kernel
theorem dL_law_635 : decode cL_law 635 = .ok (.iconst 1, 1) := by decide +kernel
theorem dL_law_636 : decode cL_law 636 = .ok (.iadd, 1) := by decide +kernel
theorem dL_law_637 : decode cL_law 637 = .ok (.iaload, 1) := by decide +kernel
theorem dL_law_638 : decode cL_law 638 = .ok (.invokevirtual 76, 3) := by decide +kernel
theorem dL_law_641 : decode cL_law 641 = .ok (.if_icmp .eq 857, 3) := by decide +kernel
theorem dL_law_644 : decode cL_law 644 = .ok (.iconst 0, 1) := by decide +kernel
theorem dL_law_645 : decode cL_law 645 = .ok (.ireturn, 1) := by decide +kernel
theorem dL_law_646 : decode cL_law 646 = .ok (.aload_n 1, 1) := by decide +kernel
theorem dL_law_647 : decode cL_law 647 = .ok (.aload_n 0, 1) := by decide +kernel
theorem dL_law_648 : decode cL_law 648 = .ok (.iload 4, 2) := by decide +kernel
theorem dL_law_650 : decode cL_law 650 = .ok (.iconst 1, 1) := by decide +kernel
theorem dL_law_651 : decode cL_law 651 = .ok (.iadd, 1) := by decide +kernel
theorem dL_law_652 : decode cL_law 652 = .ok (.iaload, 1) := by decide +kernel
theorem dL_law_653 : decode cL_law 653 = .ok (.invokevirtual 77, 3) := by decide +kernel
theorem dL_law_656 : decode cL_law 656 = .ok (.aload_n 2, 1) := by decide +kernel
theorem dL_law_657 : decode cL_law 657 = .ok (.aload_n 0, 1) := by decide +kernel
theorem dL_law_658 : decode cL_law 658 = .ok (.iload 4, 2) := by decide +kernel
theorem dL_law_660 : decode cL_law 660 = .ok (.iconst 1, 1) := by decide +kernel
theorem dL_law_661 : decode cL_law 661 = .ok (.iadd, 1) := by decide +kernel
theorem dL_law_662 : decode cL_law 662 = .ok (.iaload, 1) := by decide +kernel
theorem dL_law_663 : decode cL_law 663 = .ok (.invokevirtual 80, 3) := by decide +kernel
theorem dL_law_666 : decode cL_law 666 = .ok (.if_icmp .eq 832, 3) := by decide +kernel
theorem dL_law_669 : decode cL_law 669 = .ok (.iconst 0, 1) := by decide +kernel
theorem dL_law_670 : decode cL_law 670 = .ok (.ireturn, 1) := by decide +kernel
theorem dL_law_671 : decode cL_law 671 = .ok (.aload_n 1, 1) := by decide +kernel
theorem dL_law_672 : decode cL_law 672 = .ok (.aload_n 0, 1) := by decide +kernel
theorem dL_law_673 : decode cL_law 673 = .ok (.iload 4, 2) := by decide +kernel
theorem dL_law_675 : decode cL_law 675 = .ok (.iconst 1, 1) := by decide +kernel
theorem dL_law_676 : decode cL_law 676 = .ok (.iadd, 1) := by decide +kernel
theorem dL_law_677 : decode cL_law 677 = .ok (.iaload, 1) := by decide +kernel
theorem dL_law_678 : decode cL_law 678 = .ok (.aload_n 0, 1) := by decide +kernel
theorem dL_law_679 : decode cL_law 679 = .ok (.iload 4, 2) := by decide +kernel
theorem dL_law_681 : decode cL_law 681 = .ok (.iconst 2, 1) := by decide +kernel
theorem dL_law_682 : decode cL_law 682 = .ok (.iadd, 1) := by decide +kernel
theorem dL_law_683 : decode cL_law 683 = .ok (.iaload, 1) := by decide +kernel
theorem dL_law_684 : decode cL_law 684 = .ok (.invokevirtual 81, 3) := by decide +kernel
theorem dL_law_687 : decode cL_law 687 = .ok (.aload_n 2, 1) := by decide +kernel
theorem dL_law_688 : decode cL_law 688 = .ok (.aload_n 0, 1) := by decide +kernel
theorem dL_law_689 : decode cL_law 689 = .ok (.iload 4, 2) := by decide +kernel
theorem dL_law_691 : decode cL_law 691 = .ok (.iconst 1, 1) := by decide +kernel
theorem dL_law_692 : decode cL_law 692 = .ok (.iadd, 1) := by decide +kernel
theorem dL_law_693 : decode cL_law 693 = .ok (.iaload, 1) := by decide +kernel
theorem dL_law_694 : decode cL_law 694 = .ok (.aload_n 0, 1) := by decide +kernel
theorem dL_law_695 : decode cL_law 695 = .ok (.iload 4, 2) := by decide +kernel
theorem dL_law_697 : decode cL_law 697 = .ok (.iconst 2, 1) := by decide +kernel
theorem dL_law_698 : decode cL_law 698 = .ok (.iadd, 1) := by decide +kernel
theorem dL_law_699 : decode cL_law 699 = .ok (.iaload, 1) := by decide +kernel
theorem dL_law_700 : decode cL_law 700 = .ok (.invokevirtual 84, 3) := by decide +kernel
theorem dL_law_703 : decode cL_law 703 = .ok (.if_icmp .eq 795, 3) := by decide +kernel
theorem dL_law_706 : decode cL_law 706 = .ok (.iconst 0, 1) := by decide +kernel
theorem dL_law_707 : decode cL_law 707 = .ok (.ireturn, 1) := by decide +kernel
theorem dL_law_708 : decode cL_law 708 = .ok (.aload_n 1, 1) := by decide +kernel
theorem dL_law_709 : decode cL_law 709 = .ok (.aload_n 0, 1) := by decide +kernel
theorem dL_law_710 : decode cL_law 710 = .ok (.iload 4, 2) := by decide +kernel
theorem dL_law_712 : decode cL_law 712 = .ok (.iconst 1, 1) := by decide +kernel
theorem dL_law_713 : decode cL_law 713 = .ok (.iadd, 1) := by decide +kernel
theorem dL_law_714 : decode cL_law 714 = .ok (.iaload, 1) := by decide +kernel
theorem dL_law_715 : decode cL_law 715 = .ok (.invokevirtual 85, 3) := by decide +kernel
theorem dL_law_718 : decode cL_law 718 = .ok (.aload_n 2, 1) := by decide +kernel
theorem dL_law_719 : decode cL_law 719 = .ok (.aload_n 0, 1) := by decide +kernel
theorem dL_law_720 : decode cL_law 720 = .ok (.iload 4, 2) := by decide +kernel
theorem dL_law_722 : decode cL_law 722 = .ok (.iconst 1, 1) := by decide +kernel
theorem dL_law_723 : decode cL_law 723 = .ok (.iadd, 1) := by decide +kernel
theorem dL_law_724 : decode cL_law 724 = .ok (.iaload, 1) := by decide +kernel
theorem dL_law_725 : decode cL_law 725 = .ok (.invokevirtual 88, 3) := by decide +kernel
theorem dL_law_728 : decode cL_law 728 = .ok (.if_icmp .eq 770, 3) := by decide +kernel
theorem dL_law_731 : decode cL_law 731 = .ok (.iconst 0, 1) := by decide +kernel
theorem dL_law_732 : decode cL_law 732 = .ok (.ireturn, 1) := by decide +kernel
theorem dL_law_733 : decode cL_law 733 = .ok (.aload_n 1, 1) := by decide +kernel
theorem dL_law_734 : decode cL_law 734 = .ok (.aload_n 0, 1) := by decide +kernel
theorem dL_law_735 : decode cL_law 735 = .ok (.iload 4, 2) := by decide +kernel
theorem dL_law_737 : decode cL_law 737 = .ok (.iconst 1, 1) := by decide +kernel
theorem dL_law_738 : decode cL_law 738 = .ok (.iadd, 1) := by decide +kernel
theorem dL_law_739 : decode cL_law 739 = .ok (.iaload, 1) := by decide +kernel
theorem dL_law_740 : decode cL_law 740 = .ok (.aload_n 0, 1) := by decide +kernel
theorem dL_law_741 : decode cL_law 741 = .ok (.iload 4, 2) := by decide +kernel
theorem dL_law_743 : decode cL_law 743 = .ok (.iconst 2, 1) := by decide +kernel
theorem dL_law_744 : decode cL_law 744 = .ok (.iadd, 1) := by decide +kernel
theorem dL_law_745 : decode cL_law 745 = .ok (.iaload, 1) := by decide +kernel
theorem dL_law_746 : decode cL_law 746 = .ok (.aload_n 0, 1) := by decide +kernel
theorem dL_law_747 : decode cL_law 747 = .ok (.iload 4, 2) := by decide +kernel
theorem dL_law_749 : decode cL_law 749 = .ok (.iconst 3, 1) := by decide +kernel
theorem dL_law_750 : decode cL_law 750 = .ok (.iadd, 1) := by decide +kernel
theorem dL_law_751 : decode cL_law 751 = .ok (.iaload, 1) := by decide +kernel
theorem dL_law_752 : decode cL_law 752 = .ok (.invokevirtual 89, 3) := by decide +kernel
theorem dL_law_755 : decode cL_law 755 = .ok (.aload_n 2, 1) := by decide +kernel
theorem dL_law_756 : decode cL_law 756 = .ok (.aload_n 0, 1) := by decide +kernel
theorem dL_law_757 : decode cL_law 757 = .ok (.iload 4, 2) := by decide +kernel
theorem dL_law_759 : decode cL_law 759 = .ok (.iconst 1, 1) := by decide +kernel
theorem dL_law_760 : decode cL_law 760 = .ok (.iadd, 1) := by decide +kernel
theorem dL_law_761 : decode cL_law 761 = .ok (.iaload, 1) := by decide +kernel
theorem dL_law_762 : decode cL_law 762 = .ok (.aload_n 0, 1) := by decide +kernel
theorem dL_law_763 : decode cL_law 763 = .ok (.iload 4, 2) := by decide +kernel
theorem dL_law_765 : decode cL_law 765 = .ok (.iconst 2, 1) := by decide +kernel
theorem dL_law_766 : decode cL_law 766 = .ok (.iadd, 1) := by decide +kernel
theorem dL_law_767 : decode cL_law 767 = .ok (.iaload, 1) := by decide +kernel
theorem dL_law_768 : decode cL_law 768 = .ok (.aload_n 0, 1) := by decide +kernel
theorem dL_law_769 : decode cL_law 769 = .ok (.iload 4, 2) := by decide +kernel
theorem dL_law_771 : decode cL_law 771 = .ok (.iconst 3, 1) := by decide +kernel
theorem dL_law_772 : decode cL_law 772 = .ok (.iadd, 1) := by decide +kernel
theorem dL_law_773 : decode cL_law 773 = .ok (.iaload, 1) := by decide +kernel
theorem dL_law_774 : decode cL_law 774 = .ok (.invokevirtual 93, 3) := by decide +kernel
theorem dL_law_777 : decode cL_law 777 = .ok (.if_icmp .eq 721, 3) := by decide +kernel
theorem dL_law_780 : decode cL_law 780 = .ok (.iconst 0, 1) := by decide +kernel
theorem dL_law_781 : decode cL_law 781 = .ok (.ireturn, 1) := by decide +kernel
theorem dL_law_782 : decode cL_law 782 = .ok (.aload_n 1, 1) := by decide +kernel
theorem dL_law_783 : decode cL_law 783 = .ok (.aload_n 0, 1) := by decide +kernel
theorem dL_law_784 : decode cL_law 784 = .ok (.iload 4, 2) := by decide +kernel
theorem dL_law_786 : decode cL_law 786 = .ok (.iconst 1, 1) := by decide +kernel
theorem dL_law_787 : decode cL_law 787 = .ok (.iadd, 1) := by decide +kernel
theorem dL_law_788 : decode cL_law 788 = .ok (.iaload, 1) := by decide +kernel
theorem dL_law_789 : decode cL_law 789 = .ok (.invokevirtual 94, 3) := by decide +kernel
theorem dL_law_792 : decode cL_law 792 = .ok (.aload_n 2, 1) := by decide +kernel
theorem dL_law_793 : decode cL_law 793 = .ok (.aload_n 0, 1) := by decide +kernel
theorem dL_law_794 : decode cL_law 794 = .ok (.iload 4, 2) := by decide +kernel
theorem dL_law_796 : decode cL_law 796 = .ok (.iconst 1, 1) := by decide +kernel
theorem dL_law_797 : decode cL_law 797 = .ok (.iadd, 1) := by decide +kernel
theorem dL_law_798 : decode cL_law 798 = .ok (.iaload, 1) := by decide +kernel
theorem dL_law_799 : decode cL_law 799 = .ok (.invokevirtual 97, 3) := by decide +kernel
theorem dL_law_802 : decode cL_law 802 = .ok (.if_icmp .eq 696, 3) := by decide +kernel
theorem dL_law_805 : decode cL_law 805 = .ok (.iconst 0, 1) := by decide +kernel
theorem dL_law_806 : decode cL_law 806 = .ok (.ireturn, 1) := by decide +kernel
theorem dL_law_807 : decode cL_law 807 = .ok (.aload_n 1, 1) := by decide +kernel
theorem dL_law_808 : decode cL_law 808 = .ok (.aload_n 0, 1) := by decide +kernel
theorem dL_law_809 : decode cL_law 809 = .ok (.iload 4, 2) := by decide +kernel
theorem dL_law_811 : decode cL_law 811 = .ok (.iconst 1, 1) := by decide +kernel
theorem dL_law_812 : decode cL_law 812 = .ok (.iadd, 1) := by decide +kernel
theorem dL_law_813 : decode cL_law 813 = .ok (.iaload, 1) := by decide +kernel
theorem dL_law_814 : decode cL_law 814 = .ok (.aload_n 0, 1) := by decide +kernel
theorem dL_law_815 : decode cL_law 815 = .ok (.iload 4, 2) := by decide +kernel
theorem dL_law_817 : decode cL_law 817 = .ok (.iconst 2, 1) := by decide +kernel
theorem dL_law_818 : decode cL_law 818 = .ok (.iadd, 1) := by decide +kernel
theorem dL_law_819 : decode cL_law 819 = .ok (.iaload, 1) := by decide +kernel
theorem dL_law_820 : decode cL_law 820 = .ok (.aload_n 0, 1) := by decide +kernel
theorem dL_law_821 : decode cL_law 821 = .ok (.iload 4, 2) := by decide +kernel
theorem dL_law_823 : decode cL_law 823 = .ok (.iconst 3, 1) := by decide +kernel
theorem dL_law_824 : decode cL_law 824 = .ok (.iadd, 1) := by decide +kernel
theorem dL_law_825 : decode cL_law 825 = .ok (.iaload, 1) := by decide +kernel
theorem dL_law_826 : decode cL_law 826 = .ok (.invokevirtual 98, 3) := by decide +kernel
theorem dL_law_829 : decode cL_law 829 = .ok (.aload_n 2, 1) := by decide +kernel
theorem dL_law_830 : decode cL_law 830 = .ok (.aload_n 0, 1) := by decide +kernel
theorem dL_law_831 : decode cL_law 831 = .ok (.iload 4, 2) := by decide +kernel
theorem dL_law_833 : decode cL_law 833 = .ok (.iconst 1, 1) := by decide +kernel
theorem dL_law_834 : decode cL_law 834 = .ok (.iadd, 1) := by decide +kernel
theorem dL_law_835 : decode cL_law 835 = .ok (.iaload, 1) := by decide +kernel
theorem dL_law_836 : decode cL_law 836 = .ok (.aload_n 0, 1) := by decide +kernel
theorem dL_law_837 : decode cL_law 837 = .ok (.iload 4, 2) := by decide +kernel
theorem dL_law_839 : decode cL_law 839 = .ok (.iconst 2, 1) := by decide +kernel
theorem dL_law_840 : decode cL_law 840 = .ok (.iadd, 1) := by decide +kernel
theorem dL_law_841 : decode cL_law 841 = .ok (.iaload, 1) := by decide +kernel
theorem dL_law_842 : decode cL_law 842 = .ok (.aload_n 0, 1) := by decide +kernel
theorem dL_law_843 : decode cL_law 843 = .ok (.iload 4, 2) := by decide +kernel
theorem dL_law_845 : decode cL_law 845 = .ok (.iconst 3, 1) := by decide +kernel
theorem dL_law_846 : decode cL_law 846 = .ok (.iadd, 1) := by decide +kernel
theorem dL_law_847 : decode cL_law 847 = .ok (.iaload, 1) := by decide +kernel
theorem dL_law_848 : decode cL_law 848 = .ok (.invokevirtual 101, 3) := by decide +kernel
theorem dL_law_851 : decode cL_law 851 = .ok (.if_icmp .eq 647, 3) := by decide +kernel
theorem dL_law_854 : decode cL_law 854 = .ok (.iconst 0, 1) := by decide +kernel
theorem dL_law_855 : decode cL_law 855 = .ok (.ireturn, 1) := by decide +kernel
theorem dL_law_856 : decode cL_law 856 = .ok (.aload_n 1, 1) := by decide +kernel
theorem dL_law_857 : decode cL_law 857 = .ok (.aload_n 0, 1) := by decide +kernel
theorem dL_law_858 : decode cL_law 858 = .ok (.iload 4, 2) := by decide +kernel
theorem dL_law_860 : decode cL_law 860 = .ok (.iconst 1, 1) := by decide +kernel
theorem dL_law_861 : decode cL_law 861 = .ok (.iadd, 1) := by decide +kernel
theorem dL_law_862 : decode cL_law 862 = .ok (.iaload, 1) := by decide +kernel
theorem dL_law_863 : decode cL_law 863 = .ok (.aload_n 0, 1) := by decide +kernel
theorem dL_law_864 : decode cL_law 864 = .ok (.iload 4, 2) := by decide +kernel
theorem dL_law_866 : decode cL_law 866 = .ok (.iconst 2, 1) := by decide +kernel
theorem dL_law_867 : decode cL_law 867 = .ok (.iadd, 1) := by decide +kernel
theorem dL_law_868 : decode cL_law 868 = .ok (.iaload, 1) := by decide +kernel
theorem dL_law_869 : decode cL_law 869 = .ok (.invokevirtual 102, 3) := by decide +kernel
theorem dL_law_872 : decode cL_law 872 = .ok (.aload_n 2, 1) := by decide +kernel
theorem dL_law_873 : decode cL_law 873 = .ok (.aload_n 0, 1) := by decide +kernel
theorem dL_law_874 : decode cL_law 874 = .ok (.iload 4, 2) := by decide +kernel
theorem dL_law_876 : decode cL_law 876 = .ok (.iconst 1, 1) := by decide +kernel
theorem dL_law_877 : decode cL_law 877 = .ok (.iadd, 1) := by decide +kernel
theorem dL_law_878 : decode cL_law 878 = .ok (.iaload, 1) := by decide +kernel
theorem dL_law_879 : decode cL_law 879 = .ok (.aload_n 0, 1) := by decide +kernel
theorem dL_law_880 : decode cL_law 880 = .ok (.iload 4, 2) := by decide +kernel
theorem dL_law_882 : decode cL_law 882 = .ok (.iconst 2, 1) := by decide +kernel
theorem dL_law_883 : decode cL_law 883 = .ok (.iadd, 1) := by decide +kernel
theorem dL_law_884 : decode cL_law 884 = .ok (.iaload, 1) := by decide +kernel
theorem dL_law_885 : decode cL_law 885 = .ok (.invokevirtual 105, 3) := by decide +kernel
theorem dL_law_888 : decode cL_law 888 = .ok (.if_icmp .eq 610, 3) := by decide +kernel
theorem dL_law_891 : decode cL_law 891 = .ok (.iconst 0, 1) := by decide +kernel
theorem dL_law_892 : decode cL_law 892 = .ok (.ireturn, 1) := by decide +kernel
theorem dL_law_893 : decode cL_law 893 = .ok (.aload_n 1, 1) := by decide +kernel
theorem dL_law_894 : decode cL_law 894 = .ok (.aload_n 0, 1) := by decide +kernel
theorem dL_law_895 : decode cL_law 895 = .ok (.iload 4, 2) := by decide +kernel
theorem dL_law_897 : decode cL_law 897 = .ok (.iconst 1, 1) := by decide +kernel
theorem dL_law_898 : decode cL_law 898 = .ok (.iadd, 1) := by decide +kernel
theorem dL_law_899 : decode cL_law 899 = .ok (.iaload, 1) := by decide +kernel
theorem dL_law_900 : decode cL_law 900 = .ok (.aload_n 0, 1) := by decide +kernel
theorem dL_law_901 : decode cL_law 901 = .ok (.iload 4, 2) := by decide +kernel
theorem dL_law_903 : decode cL_law 903 = .ok (.iconst 2, 1) := by decide +kernel
theorem dL_law_904 : decode cL_law 904 = .ok (.iadd, 1) := by decide +kernel
theorem dL_law_905 : decode cL_law 905 = .ok (.iaload, 1) := by decide +kernel
theorem dL_law_906 : decode cL_law 906 = .ok (.invokevirtual 106, 3) := by decide +kernel
theorem dL_law_909 : decode cL_law 909 = .ok (.aload_n 2, 1) := by decide +kernel
theorem dL_law_910 : decode cL_law 910 = .ok (.aload_n 0, 1) := by decide +kernel
theorem dL_law_911 : decode cL_law 911 = .ok (.iload 4, 2) := by decide +kernel
theorem dL_law_913 : decode cL_law 913 = .ok (.iconst 1, 1) := by decide +kernel
theorem dL_law_914 : decode cL_law 914 = .ok (.iadd, 1) := by decide +kernel
theorem dL_law_915 : decode cL_law 915 = .ok (.iaload, 1) := by decide +kernel
theorem dL_law_916 : decode cL_law 916 = .ok (.aload_n 0, 1) := by decide +kernel
theorem dL_law_917 : decode cL_law 917 = .ok (.iload 4, 2) := by decide +kernel
theorem dL_law_919 : decode cL_law 919 = .ok (.iconst 2, 1) := by decide +kernel
theorem dL_law_920 : decode cL_law 920 = .ok (.iadd, 1) := by decide +kernel
theorem dL_law_921 : decode cL_law 921 = .ok (.iaload, 1) := by decide +kernel
theorem dL_law_922 : decode cL_law 922 = .ok (.invokevirtual 109, 3) := by decide +kernel
theorem dL_law_925 : decode cL_law 925 = .ok (.if_icmp .eq 573, 3) := by decide +kernel
theorem dL_law_928 : decode cL_law 928 = .ok (.iconst 0, 1) := by decide +kernel
theorem dL_law_929 : decode cL_law 929 = .ok (.ireturn, 1) := by decide +kernel
theorem dL_law_930 : decode cL_law 930 = .ok (.aload_n 1, 1) := by decide +kernel
theorem dL_law_931 : decode cL_law 931 = .ok (.aload_n 0, 1) := by decide +kernel
theorem dL_law_932 : decode cL_law 932 = .ok (.iload 4, 2) := by decide +kernel
theorem dL_law_934 : decode cL_law 934 = .ok (.iconst 1, 1) := by decide +kernel
theorem dL_law_935 : decode cL_law 935 = .ok (.iadd, 1) := by decide +kernel
theorem dL_law_936 : decode cL_law 936 = .ok (.iaload, 1) := by decide +kernel
theorem dL_law_937 : decode cL_law 937 = .ok (.aload_n 0, 1) := by decide +kernel
theorem dL_law_938 : decode cL_law 938 = .ok (.iload 4, 2) := by decide +kernel
theorem dL_law_940 : decode cL_law 940 = .ok (.iconst 2, 1) := by decide +kernel
theorem dL_law_941 : decode cL_law 941 = .ok (.iadd, 1) := by decide +kernel
theorem dL_law_942 : decode cL_law 942 = .ok (.iaload, 1) := by decide +kernel
theorem dL_law_943 : decode cL_law 943 = .ok (.aload_n 0, 1) := by decide +kernel
theorem dL_law_944 : decode cL_law 944 = .ok (.iload 4, 2) := by decide +kernel
theorem dL_law_946 : decode cL_law 946 = .ok (.iconst 3, 1) := by decide +kernel
theorem dL_law_947 : decode cL_law 947 = .ok (.iadd, 1) := by decide +kernel
theorem dL_law_948 : decode cL_law 948 = .ok (.iaload, 1) := by decide +kernel
theorem dL_law_949 : decode cL_law 949 = .ok (.invokevirtual 110, 3) := by decide +kernel
theorem dL_law_952 : decode cL_law 952 = .ok (.aload_n 2, 1) := by decide +kernel
theorem dL_law_953 : decode cL_law 953 = .ok (.aload_n 0, 1) := by decide +kernel
theorem dL_law_954 : decode cL_law 954 = .ok (.iload 4, 2) := by decide +kernel
theorem dL_law_956 : decode cL_law 956 = .ok (.iconst 1, 1) := by decide +kernel
theorem dL_law_957 : decode cL_law 957 = .ok (.iadd, 1) := by decide +kernel
theorem dL_law_958 : decode cL_law 958 = .ok (.iaload, 1) := by decide +kernel
theorem dL_law_959 : decode cL_law 959 = .ok (.aload_n 0, 1) := by decide +kernel
theorem dL_law_960 : decode cL_law 960 = .ok (.iload 4, 2) := by decide +kernel
theorem dL_law_962 : decode cL_law 962 = .ok (.iconst 2, 1) := by decide +kernel
theorem dL_law_963 : decode cL_law 963 = .ok (.iadd, 1) := by decide +kernel
theorem dL_law_964 : decode cL_law 964 = .ok (.iaload, 1) := by decide +kernel
theorem dL_law_965 : decode cL_law 965 = .ok (.aload_n 0, 1) := by decide +kernel
theorem dL_law_966 : decode cL_law 966 = .ok (.iload 4, 2) := by decide +kernel
theorem dL_law_968 : decode cL_law 968 = .ok (.iconst 3, 1) := by decide +kernel
theorem dL_law_969 : decode cL_law 969 = .ok (.iadd, 1) := by decide +kernel
theorem dL_law_970 : decode cL_law 970 = .ok (.iaload, 1) := by decide +kernel
theorem dL_law_971 : decode cL_law 971 = .ok (.invokevirtual 113, 3) := by decide +kernel
theorem dL_law_974 : decode cL_law 974 = .ok (.if_icmp .eq 524, 3) := by decide +kernel
theorem dL_law_977 : decode cL_law 977 = .ok (.iconst 0, 1) := by decide +kernel
theorem dL_law_978 : decode cL_law 978 = .ok (.ireturn, 1) := by decide +kernel
theorem dL_law_979 : decode cL_law 979 = .ok (.aload_n 1, 1) := by decide +kernel
theorem dL_law_980 : decode cL_law 980 = .ok (.aload_n 0, 1) := by decide +kernel
theorem dL_law_981 : decode cL_law 981 = .ok (.iload 4, 2) := by decide +kernel
theorem dL_law_983 : decode cL_law 983 = .ok (.iconst 1, 1) := by decide +kernel
theorem dL_law_984 : decode cL_law 984 = .ok (.iadd, 1) := by decide +kernel
theorem dL_law_985 : decode cL_law 985 = .ok (.iaload, 1) := by decide +kernel
theorem dL_law_986 : decode cL_law 986 = .ok (.aload_n 0, 1) := by decide +kernel
theorem dL_law_987 : decode cL_law 987 = .ok (.iload 4, 2) := by decide +kernel
theorem dL_law_989 : decode cL_law 989 = .ok (.iconst 2, 1) := by decide +kernel
theorem dL_law_990 : decode cL_law 990 = .ok (.iadd, 1) := by decide +kernel
theorem dL_law_991 : decode cL_law 991 = .ok (.iaload, 1) := by decide +kernel
theorem dL_law_992 : decode cL_law 992 = .ok (.invokevirtual 114, 3) := by decide +kernel
theorem dL_law_995 : decode cL_law 995 = .ok (.aload_n 2, 1) := by decide +kernel
theorem dL_law_996 : decode cL_law 996 = .ok (.aload_n 0, 1) := by decide +kernel
theorem dL_law_997 : decode cL_law 997 = .ok (.iload 4, 2) := by decide +kernel
theorem dL_law_999 : decode cL_law 999 = .ok (.iconst 1, 1) := by decide +kernel
theorem dL_law_1000 : decode cL_law 1000 = .ok (.iadd, 1) := by decide +kernel
theorem dL_law_1001 : decode cL_law 1001 = .ok (.iaload, 1) := by decide +kernel
theorem dL_law_1002 : decode cL_law 1002 = .ok (.aload_n 0, 1) := by decide +kernel
theorem dL_law_1003 : decode cL_law 1003 = .ok (.iload 4, 2) := by decide +kernel
theorem dL_law_1005 : decode cL_law 1005 = .ok (.iconst 2, 1) := by decide +kernel
theorem dL_law_1006 : decode cL_law 1006 = .ok (.iadd, 1) := by decide +kernel
theorem dL_law_1007 : decode cL_law 1007 = .ok (.iaload, 1) := by decide +kernel
theorem dL_law_1008 : decode cL_law 1008 = .ok (.invokevirtual 117, 3) := by decide +kernel
theorem dL_law_1011 : decode cL_law 1011 = .ok (.if_icmp .eq 487, 3) := by decide +kernel
theorem dL_law_1014 : decode cL_law 1014 = .ok (.iconst 0, 1) := by decide +kernel
theorem dL_law_1015 : decode cL_law 1015 = .ok (.ireturn, 1) := by decide +kernel
theorem dL_law_1016 : decode cL_law 1016 = .ok (.aload_n 1, 1) := by decide +kernel
theorem dL_law_1017 : decode cL_law 1017 = .ok (.aload_n 0, 1) := by decide +kernel
theorem dL_law_1018 : decode cL_law 1018 = .ok (.iload 4, 2) := by decide +kernel
theorem dL_law_1020 : decode cL_law 1020 = .ok (.iconst 1, 1) := by decide +kernel
theorem dL_law_1021 : decode cL_law 1021 = .ok (.iadd, 1) := by decide +kernel
theorem dL_law_1022 : decode cL_law 1022 = .ok (.iaload, 1) := by decide +kernel
theorem dL_law_1023 : decode cL_law 1023 = .ok (.invokevirtual 118, 3) := by decide +kernel
theorem dL_law_1026 : decode cL_law 1026 = .ok (.aload_n 2, 1) := by decide +kernel
theorem dL_law_1027 : decode cL_law 1027 = .ok (.aload_n 0, 1) := by decide +kernel
theorem dL_law_1028 : decode cL_law 1028 = .ok (.iload 4, 2) := by decide +kernel
theorem dL_law_1030 : decode cL_law 1030 = .ok (.iconst 1, 1) := by decide +kernel
theorem dL_law_1031 : decode cL_law 1031 = .ok (.iadd, 1) := by decide +kernel
theorem dL_law_1032 : decode cL_law 1032 = .ok (.iaload, 1) := by decide +kernel
theorem dL_law_1033 : decode cL_law 1033 = .ok (.invokevirtual 121, 3) := by decide +kernel
theorem dL_law_1036 : decode cL_law 1036 = .ok (.if_icmp .eq 462, 3) := by decide +kernel
theorem dL_law_1039 : decode cL_law 1039 = .ok (.iconst 0, 1) := by decide +kernel
theorem dL_law_1040 : decode cL_law 1040 = .ok (.ireturn, 1) := by decide +kernel
theorem dL_law_1041 : decode cL_law 1041 = .ok (.aload_n 1, 1) := by decide +kernel
theorem dL_law_1042 : decode cL_law 1042 = .ok (.aload_n 0, 1) := by decide +kernel
theorem dL_law_1043 : decode cL_law 1043 = .ok (.iload 4, 2) := by decide +kernel
theorem dL_law_1045 : decode cL_law 1045 = .ok (.iconst 1, 1) := by decide +kernel
theorem dL_law_1046 : decode cL_law 1046 = .ok (.iadd, 1) := by decide +kernel
theorem dL_law_1047 : decode cL_law 1047 = .ok (.iaload, 1) := by decide +kernel
theorem dL_law_1048 : decode cL_law 1048 = .ok (.aload_n 0, 1) := by decide +kernel
theorem dL_law_1049 : decode cL_law 1049 = .ok (.iload 4, 2) := by decide +kernel
theorem dL_law_1051 : decode cL_law 1051 = .ok (.iconst 2, 1) := by decide +kernel
theorem dL_law_1052 : decode cL_law 1052 = .ok (.iadd, 1) := by decide +kernel
theorem dL_law_1053 : decode cL_law 1053 = .ok (.iaload, 1) := by decide +kernel
theorem dL_law_1054 : decode cL_law 1054 = .ok (.aload_n 0, 1) := by decide +kernel
theorem dL_law_1055 : decode cL_law 1055 = .ok (.iload 4, 2) := by decide +kernel
theorem dL_law_1057 : decode cL_law 1057 = .ok (.iconst 3, 1) := by decide +kernel
theorem dL_law_1058 : decode cL_law 1058 = .ok (.iadd, 1) := by decide +kernel
theorem dL_law_1059 : decode cL_law 1059 = .ok (.iaload, 1) := by decide +kernel
theorem dL_law_1060 : decode cL_law 1060 = .ok (.invokevirtual 122, 3) := by decide +kernel
theorem dL_law_1063 : decode cL_law 1063 = .ok (.aload_n 2, 1) := by decide +kernel
theorem dL_law_1064 : decode cL_law 1064 = .ok (.aload_n 0, 1) := by decide +kernel
theorem dL_law_1065 : decode cL_law 1065 = .ok (.iload 4, 2) := by decide +kernel
theorem dL_law_1067 : decode cL_law 1067 = .ok (.iconst 1, 1) := by decide +kernel
theorem dL_law_1068 : decode cL_law 1068 = .ok (.iadd, 1) := by decide +kernel
theorem dL_law_1069 : decode cL_law 1069 = .ok (.iaload, 1) := by decide +kernel
theorem dL_law_1070 : decode cL_law 1070 = .ok (.aload_n 0, 1) := by decide +kernel
theorem dL_law_1071 : decode cL_law 1071 = .ok (.iload 4, 2) := by decide +kernel
theorem dL_law_1073 : decode cL_law 1073 = .ok (.iconst 2, 1) := by decide +kernel
theorem dL_law_1074 : decode cL_law 1074 = .ok (.iadd, 1) := by decide +kernel
theorem dL_law_1075 : decode cL_law 1075 = .ok (.iaload, 1) := by decide +kernel
theorem dL_law_1076 : decode cL_law 1076 = .ok (.aload_n 0, 1) := by decide +kernel
theorem dL_law_1077 : decode cL_law 1077 = .ok (.iload 4, 2) := by decide +kernel
theorem dL_law_1079 : decode cL_law 1079 = .ok (.iconst 3, 1) := by decide +kernel
theorem dL_law_1080 : decode cL_law 1080 = .ok (.iadd, 1) := by decide +kernel
theorem dL_law_1081 : decode cL_law 1081 = .ok (.iaload, 1) := by decide +kernel
theorem dL_law_1082 : decode cL_law 1082 = .ok (.invokevirtual 125, 3) := by decide +kernel
theorem dL_law_1085 : decode cL_law 1085 = .ok (.if_icmp .eq 413, 3) := by decide +kernel
theorem dL_law_1088 : decode cL_law 1088 = .ok (.iconst 0, 1) := by decide +kernel
theorem dL_law_1089 : decode cL_law 1089 = .ok (.ireturn, 1) := by decide +kernel
theorem dL_law_1090 : decode cL_law 1090 = .ok (.aload_n 1, 1) := by decide +kernel
theorem dL_law_1091 : decode cL_law 1091 = .ok (.aload_n 0, 1) := by decide +kernel
theorem dL_law_1092 : decode cL_law 1092 = .ok (.iload 4, 2) := by decide +kernel
theorem dL_law_1094 : decode cL_law 1094 = .ok (.iconst 1, 1) := by decide +kernel
theorem dL_law_1095 : decode cL_law 1095 = .ok (.iadd, 1) := by decide +kernel
theorem dL_law_1096 : decode cL_law 1096 = .ok (.iaload, 1) := by decide +kernel
theorem dL_law_1097 : decode cL_law 1097 = .ok (.aload_n 0, 1) := by decide +kernel
theorem dL_law_1098 : decode cL_law 1098 = .ok (.iload 4, 2) := by decide +kernel
theorem dL_law_1100 : decode cL_law 1100 = .ok (.iconst 2, 1) := by decide +kernel
theorem dL_law_1101 : decode cL_law 1101 = .ok (.iadd, 1) := by decide +kernel
theorem dL_law_1102 : decode cL_law 1102 = .ok (.iaload, 1) := by decide +kernel
theorem dL_law_1103 : decode cL_law 1103 = .ok (.aload_n 0, 1) := by decide +kernel
theorem dL_law_1104 : decode cL_law 1104 = .ok (.iload 4, 2) := by decide +kernel
theorem dL_law_1106 : decode cL_law 1106 = .ok (.iconst 3, 1) := by decide +kernel
theorem dL_law_1107 : decode cL_law 1107 = .ok (.iadd, 1) := by decide +kernel
theorem dL_law_1108 : decode cL_law 1108 = .ok (.iaload, 1) := by decide +kernel
theorem dL_law_1109 : decode cL_law 1109 = .ok (.invokevirtual 126, 3) := by decide +kernel
theorem dL_law_1112 : decode cL_law 1112 = .ok (.aload_n 2, 1) := by decide +kernel
theorem dL_law_1113 : decode cL_law 1113 = .ok (.aload_n 0, 1) := by decide +kernel
theorem dL_law_1114 : decode cL_law 1114 = .ok (.iload 4, 2) := by decide +kernel
theorem dL_law_1116 : decode cL_law 1116 = .ok (.iconst 1, 1) := by decide +kernel
theorem dL_law_1117 : decode cL_law 1117 = .ok (.iadd, 1) := by decide +kernel
theorem dL_law_1118 : decode cL_law 1118 = .ok (.iaload, 1) := by decide +kernel
theorem dL_law_1119 : decode cL_law 1119 = .ok (.aload_n 0, 1) := by decide +kernel
theorem dL_law_1120 : decode cL_law 1120 = .ok (.iload 4, 2) := by decide +kernel
theorem dL_law_1122 : decode cL_law 1122 = .ok (.iconst 2, 1) := by decide +kernel
theorem dL_law_1123 : decode cL_law 1123 = .ok (.iadd, 1) := by decide +kernel
theorem dL_law_1124 : decode cL_law 1124 = .ok (.iaload, 1) := by decide +kernel
theorem dL_law_1125 : decode cL_law 1125 = .ok (.aload_n 0, 1) := by decide +kernel
theorem dL_law_1126 : decode cL_law 1126 = .ok (.iload 4, 2) := by decide +kernel
theorem dL_law_1128 : decode cL_law 1128 = .ok (.iconst 3, 1) := by decide +kernel
theorem dL_law_1129 : decode cL_law 1129 = .ok (.iadd, 1) := by decide +kernel
theorem dL_law_1130 : decode cL_law 1130 = .ok (.iaload, 1) := by decide +kernel
theorem dL_law_1131 : decode cL_law 1131 = .ok (.invokevirtual 129, 3) := by decide +kernel
theorem dL_law_1134 : decode cL_law 1134 = .ok (.if_icmp .eq 364, 3) := by decide +kernel
theorem dL_law_1137 : decode cL_law 1137 = .ok (.iconst 0, 1) := by decide +kernel
theorem dL_law_1138 : decode cL_law 1138 = .ok (.ireturn, 1) := by decide +kernel
theorem dL_law_1139 : decode cL_law 1139 = .ok (.aload_n 1, 1) := by decide +kernel
theorem dL_law_1140 : decode cL_law 1140 = .ok (.aload_n 0, 1) := by decide +kernel
theorem dL_law_1141 : decode cL_law 1141 = .ok (.iload 4, 2) := by decide +kernel
theorem dL_law_1143 : decode cL_law 1143 = .ok (.iconst 1, 1) := by decide +kernel
theorem dL_law_1144 : decode cL_law 1144 = .ok (.iadd, 1) := by decide +kernel
theorem dL_law_1145 : decode cL_law 1145 = .ok (.iaload, 1) := by decide +kernel
theorem dL_law_1146 : decode cL_law 1146 = .ok (.aload_n 0, 1) := by decide +kernel
theorem dL_law_1147 : decode cL_law 1147 = .ok (.iload 4, 2) := by decide +kernel
theorem dL_law_1149 : decode cL_law 1149 = .ok (.iconst 2, 1) := by decide +kernel
theorem dL_law_1150 : decode cL_law 1150 = .ok (.iadd, 1) := by decide +kernel
theorem dL_law_1151 : decode cL_law 1151 = .ok (.iaload, 1) := by decide +kernel
theorem dL_law_1152 : decode cL_law 1152 = .ok (.invokevirtual 130, 3) := by decide +kernel
theorem dL_law_1155 : decode cL_law 1155 = .ok (.aload_n 2, 1) := by decide +kernel
theorem dL_law_1156 : decode cL_law 1156 = .ok (.aload_n 0, 1) := by decide +kernel
theorem dL_law_1157 : decode cL_law 1157 = .ok (.iload 4, 2) := by decide +kernel
theorem dL_law_1159 : decode cL_law 1159 = .ok (.iconst 1, 1) := by decide +kernel
theorem dL_law_1160 : decode cL_law 1160 = .ok (.iadd, 1) := by decide +kernel
theorem dL_law_1161 : decode cL_law 1161 = .ok (.iaload, 1) := by decide +kernel
theorem dL_law_1162 : decode cL_law 1162 = .ok (.aload_n 0, 1) := by decide +kernel
theorem dL_law_1163 : decode cL_law 1163 = .ok (.iload 4, 2) := by decide +kernel
theorem dL_law_1165 : decode cL_law 1165 = .ok (.iconst 2, 1) := by decide +kernel
theorem dL_law_1166 : decode cL_law 1166 = .ok (.iadd, 1) := by decide +kernel
theorem dL_law_1167 : decode cL_law 1167 = .ok (.iaload, 1) := by decide +kernel
theorem dL_law_1168 : decode cL_law 1168 = .ok (.invokevirtual 133, 3) := by decide +kernel
theorem dL_law_1171 : decode cL_law 1171 = .ok (.if_icmp .eq 327, 3) := by decide +kernel
theorem dL_law_1174 : decode cL_law 1174 = .ok (.iconst 0, 1) := by decide +kernel
theorem dL_law_1175 : decode cL_law 1175 = .ok (.ireturn, 1) := by decide +kernel
theorem dL_law_1176 : decode cL_law 1176 = .ok (.aload_n 1, 1) := by decide +kernel
theorem dL_law_1177 : decode cL_law 1177 = .ok (.aload_n 0, 1) := by decide +kernel
theorem dL_law_1178 : decode cL_law 1178 = .ok (.iload 4, 2) := by decide +kernel
theorem dL_law_1180 : decode cL_law 1180 = .ok (.iconst 1, 1) := by decide +kernel
theorem dL_law_1181 : decode cL_law 1181 = .ok (.iadd, 1) := by decide +kernel
theorem dL_law_1182 : decode cL_law 1182 = .ok (.iaload, 1) := by decide +kernel
theorem dL_law_1183 : decode cL_law 1183 = .ok (.aload_n 0, 1) := by decide +kernel
theorem dL_law_1184 : decode cL_law 1184 = .ok (.iload 4, 2) := by decide +kernel
theorem dL_law_1186 : decode cL_law 1186 = .ok (.iconst 2, 1) := by decide +kernel
theorem dL_law_1187 : decode cL_law 1187 = .ok (.iadd, 1) := by decide +kernel
theorem dL_law_1188 : decode cL_law 1188 = .ok (.iaload, 1) := by decide +kernel
theorem dL_law_1189 : decode cL_law 1189 = .ok (.invokevirtual 134, 3) := by decide +kernel
theorem dL_law_1192 : decode cL_law 1192 = .ok (.aload_n 2, 1) := by decide +kernel
theorem dL_law_1193 : decode cL_law 1193 = .ok (.aload_n 0, 1) := by decide +kernel
theorem dL_law_1194 : decode cL_law 1194 = .ok (.iload 4, 2) := by decide +kernel
theorem dL_law_1196 : decode cL_law 1196 = .ok (.iconst 1, 1) := by decide +kernel
theorem dL_law_1197 : decode cL_law 1197 = .ok (.iadd, 1) := by decide +kernel
theorem dL_law_1198 : decode cL_law 1198 = .ok (.iaload, 1) := by decide +kernel
theorem dL_law_1199 : decode cL_law 1199 = .ok (.aload_n 0, 1) := by decide +kernel
theorem dL_law_1200 : decode cL_law 1200 = .ok (.iload 4, 2) := by decide +kernel
theorem dL_law_1202 : decode cL_law 1202 = .ok (.iconst 2, 1) := by decide +kernel
theorem dL_law_1203 : decode cL_law 1203 = .ok (.iadd, 1) := by decide +kernel
theorem dL_law_1204 : decode cL_law 1204 = .ok (.iaload, 1) := by decide +kernel
theorem dL_law_1205 : decode cL_law 1205 = .ok (.invokevirtual 137, 3) := by decide +kernel
theorem dL_law_1208 : decode cL_law 1208 = .ok (.if_icmp .eq 290, 3) := by decide +kernel
theorem dL_law_1211 : decode cL_law 1211 = .ok (.iconst 0, 1) := by decide +kernel
theorem dL_law_1212 : decode cL_law 1212 = .ok (.ireturn, 1) := by decide +kernel
theorem dL_law_1213 : decode cL_law 1213 = .ok (.aload_n 1, 1) := by decide +kernel
theorem dL_law_1214 : decode cL_law 1214 = .ok (.aload_n 0, 1) := by decide +kernel
theorem dL_law_1215 : decode cL_law 1215 = .ok (.iload 4, 2) := by decide +kernel
theorem dL_law_1217 : decode cL_law 1217 = .ok (.iconst 1, 1) := by decide +kernel
theorem dL_law_1218 : decode cL_law 1218 = .ok (.iadd, 1) := by decide +kernel
theorem dL_law_1219 : decode cL_law 1219 = .ok (.iaload, 1) := by decide +kernel
theorem dL_law_1220 : decode cL_law 1220 = .ok (.aload_n 0, 1) := by decide +kernel
theorem dL_law_1221 : decode cL_law 1221 = .ok (.iload 4, 2) := by decide +kernel
theorem dL_law_1223 : decode cL_law 1223 = .ok (.iconst 2, 1) := by decide +kernel
theorem dL_law_1224 : decode cL_law 1224 = .ok (.iadd, 1) := by decide +kernel
theorem dL_law_1225 : decode cL_law 1225 = .ok (.iaload, 1) := by decide +kernel
theorem dL_law_1226 : decode cL_law 1226 = .ok (.invokevirtual 138, 3) := by decide +kernel
theorem dL_law_1229 : decode cL_law 1229 = .ok (.aload_n 2, 1) := by decide +kernel
theorem dL_law_1230 : decode cL_law 1230 = .ok (.aload_n 0, 1) := by decide +kernel
theorem dL_law_1231 : decode cL_law 1231 = .ok (.iload 4, 2) := by decide +kernel
theorem dL_law_1233 : decode cL_law 1233 = .ok (.iconst 1, 1) := by decide +kernel
theorem dL_law_1234 : decode cL_law 1234 = .ok (.iadd, 1) := by decide +kernel
theorem dL_law_1235 : decode cL_law 1235 = .ok (.iaload, 1) := by decide +kernel
theorem dL_law_1236 : decode cL_law 1236 = .ok (.aload_n 0, 1) := by decide +kernel
theorem dL_law_1237 : decode cL_law 1237 = .ok (.iload 4, 2) := by decide +kernel
theorem dL_law_1239 : decode cL_law 1239 = .ok (.iconst 2, 1) := by decide +kernel
theorem dL_law_1240 : decode cL_law 1240 = .ok (.iadd, 1) := by decide +kernel
theorem dL_law_1241 : decode cL_law 1241 = .ok (.iaload, 1) := by decide +kernel
theorem dL_law_1242 : decode cL_law 1242 = .ok (.invokevirtual 141, 3) := by decide +kernel
theorem dL_law_1245 : decode cL_law 1245 = .ok (.if_icmp .eq 253, 3) := by decide +kernel
theorem dL_law_1248 : decode cL_law 1248 = .ok (.iconst 0, 1) := by decide +kernel
theorem dL_law_1249 : decode cL_law 1249 = .ok (.ireturn, 1) := by decide +kernel
theorem dL_law_1250 : decode cL_law 1250 = .ok (.aload_n 1, 1) := by decide +kernel
theorem dL_law_1251 : decode cL_law 1251 = .ok (.aload_n 0, 1) := by decide +kernel
theorem dL_law_1252 : decode cL_law 1252 = .ok (.iload 4, 2) := by decide +kernel
theorem dL_law_1254 : decode cL_law 1254 = .ok (.iconst 1, 1) := by decide +kernel
theorem dL_law_1255 : decode cL_law 1255 = .ok (.iadd, 1) := by decide +kernel
theorem dL_law_1256 : decode cL_law 1256 = .ok (.iaload, 1) := by decide +kernel
theorem dL_law_1257 : decode cL_law 1257 = .ok (.aload_n 0, 1) := by decide +kernel
theorem dL_law_1258 : decode cL_law 1258 = .ok (.iload 4, 2) := by decide +kernel
theorem dL_law_1260 : decode cL_law 1260 = .ok (.iconst 2, 1) := by decide +kernel
theorem dL_law_1261 : decode cL_law 1261 = .ok (.iadd, 1) := by decide +kernel
theorem dL_law_1262 : decode cL_law 1262 = .ok (.iaload, 1) := by decide +kernel
theorem dL_law_1263 : decode cL_law 1263 = .ok (.invokevirtual 142, 3) := by decide +kernel
theorem dL_law_1266 : decode cL_law 1266 = .ok (.aload_n 2, 1) := by decide +kernel
theorem dL_law_1267 : decode cL_law 1267 = .ok (.aload_n 0, 1) := by decide +kernel
theorem dL_law_1268 : decode cL_law 1268 = .ok (.iload 4, 2) := by decide +kernel
theorem dL_law_1270 : decode cL_law 1270 = .ok (.iconst 1, 1) := by decide +kernel
theorem dL_law_1271 : decode cL_law 1271 = .ok (.iadd, 1) := by decide +kernel
theorem dL_law_1272 : decode cL_law 1272 = .ok (.iaload, 1) := by decide +kernel
theorem dL_law_1273 : decode cL_law 1273 = .ok (.aload_n 0, 1) := by decide +kernel
theorem dL_law_1274 : decode cL_law 1274 = .ok (.iload 4, 2) := by decide +kernel
theorem dL_law_1276 : decode cL_law 1276 = .ok (.iconst 2, 1) := by decide +kernel
theorem dL_law_1277 : decode cL_law 1277 = .ok (.iadd, 1) := by decide +kernel
theorem dL_law_1278 : decode cL_law 1278 = .ok (.iaload, 1) := by decide +kernel
theorem dL_law_1279 : decode cL_law 1279 = .ok (.invokevirtual 145, 3) := by decide +kernel
theorem dL_law_1282 : decode cL_law 1282 = .ok (.if_icmp .eq 216, 3) := by decide +kernel
theorem dL_law_1285 : decode cL_law 1285 = .ok (.iconst 0, 1) := by decide +kernel
theorem dL_law_1286 : decode cL_law 1286 = .ok (.ireturn, 1) := by decide +kernel
theorem dL_law_1287 : decode cL_law 1287 = .ok (.aload_n 1, 1) := by decide +kernel
theorem dL_law_1288 : decode cL_law 1288 = .ok (.aload_n 0, 1) := by decide +kernel
theorem dL_law_1289 : decode cL_law 1289 = .ok (.iload 4, 2) := by decide +kernel
theorem dL_law_1291 : decode cL_law 1291 = .ok (.iconst 1, 1) := by decide +kernel
theorem dL_law_1292 : decode cL_law 1292 = .ok (.iadd, 1) := by decide +kernel
theorem dL_law_1293 : decode cL_law 1293 = .ok (.iaload, 1) := by decide +kernel
theorem dL_law_1294 : decode cL_law 1294 = .ok (.aload_n 0, 1) := by decide +kernel
theorem dL_law_1295 : decode cL_law 1295 = .ok (.iload 4, 2) := by decide +kernel
theorem dL_law_1297 : decode cL_law 1297 = .ok (.iconst 2, 1) := by decide +kernel
theorem dL_law_1298 : decode cL_law 1298 = .ok (.iadd, 1) := by decide +kernel
theorem dL_law_1299 : decode cL_law 1299 = .ok (.iaload, 1) := by decide +kernel
theorem dL_law_1300 : decode cL_law 1300 = .ok (.aload_n 0, 1) := by decide +kernel
theorem dL_law_1301 : decode cL_law 1301 = .ok (.iload 4, 2) := by decide +kernel
theorem dL_law_1303 : decode cL_law 1303 = .ok (.iconst 3, 1) := by decide +kernel
theorem dL_law_1304 : decode cL_law 1304 = .ok (.iadd, 1) := by decide +kernel
theorem dL_law_1305 : decode cL_law 1305 = .ok (.iaload, 1) := by decide +kernel
theorem dL_law_1306 : decode cL_law 1306 = .ok (.invokevirtual 146, 3) := by decide +kernel
theorem dL_law_1309 : decode cL_law 1309 = .ok (.aload_n 2, 1) := by decide +kernel
theorem dL_law_1310 : decode cL_law 1310 = .ok (.aload_n 0, 1) := by decide +kernel
theorem dL_law_1311 : decode cL_law 1311 = .ok (.iload 4, 2) := by decide +kernel
theorem dL_law_1313 : decode cL_law 1313 = .ok (.iconst 1, 1) := by decide +kernel
theorem dL_law_1314 : decode cL_law 1314 = .ok (.iadd, 1) := by decide +kernel
theorem dL_law_1315 : decode cL_law 1315 = .ok (.iaload, 1) := by decide +kernel
theorem dL_law_1316 : decode cL_law 1316 = .ok (.aload_n 0, 1) := by decide +kernel
theorem dL_law_1317 : decode cL_law 1317 = .ok (.iload 4, 2) := by decide +kernel
theorem dL_law_1319 : decode cL_law 1319 = .ok (.iconst 2, 1) := by decide +kernel
theorem dL_law_1320 : decode cL_law 1320 = .ok (.iadd, 1) := by decide +kernel
theorem dL_law_1321 : decode cL_law 1321 = .ok (.iaload, 1) := by decide +kernel
theorem dL_law_1322 : decode cL_law 1322 = .ok (.aload_n 0, 1) := by decide +kernel
theorem dL_law_1323 : decode cL_law 1323 = .ok (.iload 4, 2) := by decide +kernel
theorem dL_law_1325 : decode cL_law 1325 = .ok (.iconst 3, 1) := by decide +kernel
theorem dL_law_1326 : decode cL_law 1326 = .ok (.iadd, 1) := by decide +kernel
theorem dL_law_1327 : decode cL_law 1327 = .ok (.iaload, 1) := by decide +kernel
theorem dL_law_1328 : decode cL_law 1328 = .ok (.invokevirtual 149, 3) := by decide +kernel
theorem dL_law_1331 : decode cL_law 1331 = .ok (.if_icmp .eq 167, 3) := by decide +kernel
theorem dL_law_1334 : decode cL_law 1334 = .ok (.iconst 0, 1) := by decide +kernel
theorem dL_law_1335 : decode cL_law 1335 = .ok (.ireturn, 1) := by decide +kernel
theorem dL_law_1336 : decode cL_law 1336 = .ok (.aload_n 1, 1) := by decide +kernel
theorem dL_law_1337 : decode cL_law 1337 = .ok (.aload_n 0, 1) := by decide +kernel
theorem dL_law_1338 : decode cL_law 1338 = .ok (.iload 4, 2) := by decide +kernel
theorem dL_law_1340 : decode cL_law 1340 = .ok (.iconst 1, 1) := by decide +kernel
theorem dL_law_1341 : decode cL_law 1341 = .ok (.iadd, 1) := by decide +kernel
theorem dL_law_1342 : decode cL_law 1342 = .ok (.iaload, 1) := by decide +kernel
theorem dL_law_1343 : decode cL_law 1343 = .ok (.aload_n 0, 1) := by decide +kernel
theorem dL_law_1344 : decode cL_law 1344 = .ok (.iload 4, 2) := by decide +kernel
theorem dL_law_1346 : decode cL_law 1346 = .ok (.iconst 2, 1) := by decide +kernel
theorem dL_law_1347 : decode cL_law 1347 = .ok (.iadd, 1) := by decide +kernel
theorem dL_law_1348 : decode cL_law 1348 = .ok (.iaload, 1) := by decide +kernel
theorem dL_law_1349 : decode cL_law 1349 = .ok (.invokevirtual 150, 3) := by decide +kernel
theorem dL_law_1352 : decode cL_law 1352 = .ok (.aload_n 2, 1) := by decide +kernel
theorem dL_law_1353 : decode cL_law 1353 = .ok (.aload_n 0, 1) := by decide +kernel
theorem dL_law_1354 : decode cL_law 1354 = .ok (.iload 4, 2) := by decide +kernel
theorem dL_law_1356 : decode cL_law 1356 = .ok (.iconst 1, 1) := by decide +kernel
theorem dL_law_1357 : decode cL_law 1357 = .ok (.iadd, 1) := by decide +kernel
theorem dL_law_1358 : decode cL_law 1358 = .ok (.iaload, 1) := by decide +kernel
theorem dL_law_1359 : decode cL_law 1359 = .ok (.aload_n 0, 1) := by decide +kernel
theorem dL_law_1360 : decode cL_law 1360 = .ok (.iload 4, 2) := by decide +kernel
theorem dL_law_1362 : decode cL_law 1362 = .ok (.iconst 2, 1) := by decide +kernel
theorem dL_law_1363 : decode cL_law 1363 = .ok (.iadd, 1) := by decide +kernel
theorem dL_law_1364 : decode cL_law 1364 = .ok (.iaload, 1) := by decide +kernel
theorem dL_law_1365 : decode cL_law 1365 = .ok (.invokevirtual 153, 3) := by decide +kernel
theorem dL_law_1368 : decode cL_law 1368 = .ok (.if_icmp .eq 130, 3) := by decide +kernel
theorem dL_law_1371 : decode cL_law 1371 = .ok (.iconst 0, 1) := by decide +kernel
theorem dL_law_1372 : decode cL_law 1372 = .ok (.ireturn, 1) := by decide +kernel
theorem dL_law_1373 : decode cL_law 1373 = .ok (.aload_n 1, 1) := by decide +kernel
theorem dL_law_1374 : decode cL_law 1374 = .ok (.aload_n 0, 1) := by decide +kernel
theorem dL_law_1375 : decode cL_law 1375 = .ok (.iload 4, 2) := by decide +kernel
theorem dL_law_1377 : decode cL_law 1377 = .ok (.iconst 1, 1) := by decide +kernel
theorem dL_law_1378 : decode cL_law 1378 = .ok (.iadd, 1) := by decide +kernel
theorem dL_law_1379 : decode cL_law 1379 = .ok (.iaload, 1) := by decide +kernel
theorem dL_law_1380 : decode cL_law 1380 = .ok (.aload_n 0, 1) := by decide +kernel
theorem dL_law_1381 : decode cL_law 1381 = .ok (.iload 4, 2) := by decide +kernel
theorem dL_law_1383 : decode cL_law 1383 = .ok (.iconst 2, 1) := by decide +kernel
theorem dL_law_1384 : decode cL_law 1384 = .ok (.iadd, 1) := by decide +kernel
theorem dL_law_1385 : decode cL_law 1385 = .ok (.iaload, 1) := by decide +kernel
theorem dL_law_1386 : decode cL_law 1386 = .ok (.invokevirtual 154, 3) := by decide +kernel
theorem dL_law_1389 : decode cL_law 1389 = .ok (.aload_n 2, 1) := by decide +kernel
theorem dL_law_1390 : decode cL_law 1390 = .ok (.aload_n 0, 1) := by decide +kernel
theorem dL_law_1391 : decode cL_law 1391 = .ok (.iload 4, 2) := by decide +kernel
theorem dL_law_1393 : decode cL_law 1393 = .ok (.iconst 1, 1) := by decide +kernel
theorem dL_law_1394 : decode cL_law 1394 = .ok (.iadd, 1) := by decide +kernel
theorem dL_law_1395 : decode cL_law 1395 = .ok (.iaload, 1) := by decide +kernel
theorem dL_law_1396 : decode cL_law 1396 = .ok (.aload_n 0, 1) := by decide +kernel
theorem dL_law_1397 : decode cL_law 1397 = .ok (.iload 4, 2) := by decide +kernel
theorem dL_law_1399 : decode cL_law 1399 = .ok (.iconst 2, 1) := by decide +kernel
theorem dL_law_1400 : decode cL_law 1400 = .ok (.iadd, 1) := by decide +kernel
theorem dL_law_1401 : decode cL_law 1401 = .ok (.iaload, 1) := by decide +kernel
theorem dL_law_1402 : decode cL_law 1402 = .ok (.invokevirtual 157, 3) := by decide +kernel
theorem dL_law_1405 : decode cL_law 1405 = .ok (.if_icmp .eq 93, 3) := by decide +kernel
theorem dL_law_1408 : decode cL_law 1408 = .ok (.iconst 0, 1) := by decide +kernel
theorem dL_law_1409 : decode cL_law 1409 = .ok (.ireturn, 1) := by decide +kernel
theorem dL_law_1410 : decode cL_law 1410 = .ok (.aload_n 1, 1) := by decide +kernel
theorem dL_law_1411 : decode cL_law 1411 = .ok (.aload_n 0, 1) := by decide +kernel
theorem dL_law_1412 : decode cL_law 1412 = .ok (.iload 4, 2) := by decide +kernel
theorem dL_law_1414 : decode cL_law 1414 = .ok (.iconst 1, 1) := by decide +kernel
theorem dL_law_1415 : decode cL_law 1415 = .ok (.iadd, 1) := by decide +kernel
theorem dL_law_1416 : decode cL_law 1416 = .ok (.iaload, 1) := by decide +kernel
theorem dL_law_1417 : decode cL_law 1417 = .ok (.aload_n 0, 1) := by decide +kernel
theorem dL_law_1418 : decode cL_law 1418 = .ok (.iload 4, 2) := by decide +kernel
theorem dL_law_1420 : decode cL_law 1420 = .ok (.iconst 2, 1) := by decide +kernel
theorem dL_law_1421 : decode cL_law 1421 = .ok (.iadd, 1) := by decide +kernel
theorem dL_law_1422 : decode cL_law 1422 = .ok (.iaload, 1) := by decide +kernel
theorem dL_law_1423 : decode cL_law 1423 = .ok (.invokevirtual 158, 3) := by decide +kernel
theorem dL_law_1426 : decode cL_law 1426 = .ok (.aload_n 2, 1) := by decide +kernel
theorem dL_law_1427 : decode cL_law 1427 = .ok (.aload_n 0, 1) := by decide +kernel
theorem dL_law_1428 : decode cL_law 1428 = .ok (.iload 4, 2) := by decide +kernel
theorem dL_law_1430 : decode cL_law 1430 = .ok (.iconst 1, 1) := by decide +kernel
theorem dL_law_1431 : decode cL_law 1431 = .ok (.iadd, 1) := by decide +kernel
theorem dL_law_1432 : decode cL_law 1432 = .ok (.iaload, 1) := by decide +kernel
theorem dL_law_1433 : decode cL_law 1433 = .ok (.aload_n 0, 1) := by decide +kernel
theorem dL_law_1434 : decode cL_law 1434 = .ok (.iload 4, 2) := by decide +kernel
theorem dL_law_1436 : decode cL_law 1436 = .ok (.iconst 2, 1) := by decide +kernel
theorem dL_law_1437 : decode cL_law 1437 = .ok (.iadd, 1) := by decide +kernel
theorem dL_law_1438 : decode cL_law 1438 = .ok (.iaload, 1) := by decide +kernel
theorem dL_law_1439 : decode cL_law 1439 = .ok (.invokevirtual 161, 3) := by decide +kernel
theorem dL_law_1442 : decode cL_law 1442 = .ok (.if_icmp .eq 56, 3) := by decide +kernel
theorem dL_law_1445 : decode cL_law 1445 = .ok (.iconst 0, 1) := by decide +kernel
theorem dL_law_1446 : decode cL_law 1446 = .ok (.ireturn, 1) := by decide +kernel
theorem dL_law_1447 : decode cL_law 1447 = .ok (.aload_n 1, 1) := by decide +kernel
theorem dL_law_1448 : decode cL_law 1448 = .ok (.invokevirtual 162, 3) := by decide +kernel
theorem dL_law_1451 : decode cL_law 1451 = .ok (.aload_n 2, 1) := by decide +kernel
theorem dL_law_1452 : decode cL_law 1452 = .ok (.invokevirtual 165, 3) := by decide +kernel
theorem dL_law_1455 : decode cL_law 1455 = .ok (.if_icmp .eq 43, 3) := by decide +kernel
theorem dL_law_1458 : decode cL_law 1458 = .ok (.iconst 0, 1) := by decide +kernel
theorem dL_law_1459 : decode cL_law 1459 = .ok (.ireturn, 1) := by decide +kernel
theorem dL_law_1460 : decode cL_law 1460 = .ok (.aload_n 1, 1) := by decide +kernel
theorem dL_law_1461 : decode cL_law 1461 = .ok (.invokevirtual 166, 3) := by decide +kernel
theorem dL_law_1464 : decode cL_law 1464 = .ok (.aload_n 2, 1) := by decide +kernel
theorem dL_law_1465 : decode cL_law 1465 = .ok (.invokevirtual 169, 3) := by decide +kernel
theorem dL_law_1468 : decode cL_law 1468 = .ok (.if_icmp .eq 30, 3) := by decide +kernel
theorem dL_law_1471 : decode cL_law 1471 = .ok (.iconst 0, 1) := by decide +kernel
theorem dL_law_1472 : decode cL_law 1472 = .ok (.ireturn, 1) := by decide +kernel
theorem dL_law_1473 : decode cL_law 1473 = .ok (.aload_n 1, 1) := by decide +kernel
theorem dL_law_1474 : decode cL_law 1474 = .ok (.aload_n 0, 1) := by decide +kernel
theorem dL_law_1475 : decode cL_law 1475 = .ok (.iload 4, 2) := by decide +kernel
theorem dL_law_1477 : decode cL_law 1477 = .ok (.iconst 1, 1) := by decide +kernel
theorem dL_law_1478 : decode cL_law 1478 = .ok (.iadd, 1) := by decide +kernel
theorem dL_law_1479 : decode cL_law 1479 = .ok (.iaload, 1) := by decide +kernel
theorem dL_law_1480 : decode cL_law 1480 = .ok (.invokevirtual 170, 3) := by decide +kernel
theorem dL_law_1483 : decode cL_law 1483 = .ok (.aload_n 2, 1) := by decide +kernel
theorem dL_law_1484 : decode cL_law 1484 = .ok (.aload_n 0, 1) := by decide +kernel
theorem dL_law_1485 : decode cL_law 1485 = .ok (.iload 4, 2) := by decide +kernel
theorem dL_law_1487 : decode cL_law 1487 = .ok (.iconst 1, 1) := by decide +kernel
theorem dL_law_1488 : decode cL_law 1488 = .ok (.iadd, 1) := by decide +kernel
theorem dL_law_1489 : decode cL_law 1489 = .ok (.iaload, 1) := by decide +kernel
theorem dL_law_1490 : decode cL_law 1490 = .ok (.invokevirtual 173, 3) := by decide +kernel
theorem dL_law_1493 : decode cL_law 1493 = .ok (.if_icmp .eq 5, 3) := by decide +kernel
theorem dL_law_1496 : decode cL_law 1496 = .ok (.iconst 0, 1) := by decide +kernel
theorem dL_law_1497 : decode cL_law 1497 = .ok (.ireturn, 1) := by decide +kernel
theorem dL_law_1498 : decode cL_law 1498 = .ok (.iinc 4 6, 3) := by decide +kernel
theorem dL_law_1501 : decode cL_law 1501 = .ok (.goto (-1478), 3) := by decide +kernel
theorem dL_law_1504 : decode cL_law 1504 = .ok (.iconst 1, 1) := by decide +kernel
theorem dL_law_1505 : decode cL_law 1505 = .ok (.ireturn, 1) := by decide +kernel

