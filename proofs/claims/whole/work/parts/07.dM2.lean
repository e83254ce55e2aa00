theorem d_M_take_32 : decode b_M_take 32 = .ok (.invokevirtual 96, 3) := by decide +kernel
theorem d_M_take_35 : decode b_M_take 35 = .ok (.iload_n 2, 1) := by decide +kernel
theorem d_M_take_36 : decode b_M_take 36 = .ok (.iadd, 1) := by decide +kernel
theorem d_M_take_37 : decode b_M_take 37 = .ok (.iaload, 1) := by decide +kernel
theorem d_M_take_38 : decode b_M_take 38 = .ok (.iastore, 1) := by decide +kernel
theorem d_M_take_39 : decode b_M_take 39 = .ok (.iinc 2 1, 3) := by decide +kernel
theorem d_M_take_42 : decode b_M_take 42 = .ok (.goto (-28), 3) := by decide +kernel
theorem d_M_take_45 : decode b_M_take 45 = .ok (.iconst 0, 1) := by decide +kernel
theorem d_M_take_46 : decode b_M_take 46 = .ok (.istore_n 2, 1) := by decide +kernel
theorem d_M_take_47 : decode b_M_take 47 = .ok (.iload_n 2, 1) := by decide +kernel
theorem d_M_take_48 : decode b_M_take 48 = .ok (.bipush 16, 2) := by decide +kernel
theorem d_M_take_50 : decode b_M_take 50 = .ok (.if_icmp .ge 30, 3) := by decide +kernel
theorem d_M_take_53 : decode b_M_take 53 = .ok (.aload_n 0, 1) := by decide +kernel
theorem d_M_take_54 : decode b_M_take 54 = .ok (.getfield 16, 3) := by decide +kernel
theorem d_M_take_57 : decode b_M_take 57 = .ok (.iload_n 2, 1) := by decide +kernel
theorem d_M_take_58 : decode b_M_take 58 = .ok (.aload_n 0, 1) := by decide +kernel
theorem d_M_take_59 : decode b_M_take 59 = .ok (.getfield 7, 3) := by decide +kernel
theorem d_M_take_62 : decode b_M_take 62 = .ok (.aload_n 0, 1) := by decide +kernel
theorem d_M_take_63 : decode b_M_take 63 = .ok (.iload_n 1, 1) := by decide +kernel
theorem d_M_take_64 : decode b_M_take 64 = .ok (.invokevirtual 82, 3) := by decide +kernel
theorem d_M_take_67 : decode b_M_take 67 = .ok (.bipush 56, 2) := by decide +kernel
theorem d_M_take_69 : decode b_M_take 69 = .ok (.iadd, 1) := by decide +kernel
theorem d_M_take_70 : decode b_M_take 70 = .ok (.iload_n 2, 1) := by decide +kernel
theorem d_M_take_71 : decode b_M_take 71 = .ok (.iadd, 1) := by decide +kernel
theorem d_M_take_72 : decode b_M_take 72 = .ok (.iaload, 1) := by decide +kernel
theorem d_M_take_73 : decode b_M_take 73 = .ok (.iastore, 1) := by decide +kernel
theorem d_M_take_74 : decode b_M_take 74 = .ok (.iinc 2 1, 3) := by decide +kernel
theorem d_M_take_77 : decode b_M_take 77 = .ok (.goto (-30), 3) := by decide +kernel
theorem d_M_take_80 : decode b_M_take 80 = .ok (.iconst 1, 1) := by decide +kernel
theorem d_M_take_81 : decode b_M_take 81 = .ok (.ireturn, 1) := by decide +kernel
theorem d_M_seal_0 : decode b_M_seal 0 = .ok (.iload_n 1, 1) := by decide +kernel
theorem d_M_seal_1 : decode b_M_seal 1 = .ok (.ifCond .lt 8, 3) := by decide +kernel
theorem d_M_seal_4 : decode b_M_seal 4 = .ok (.iload_n 1, 1) := by decide +kernel
theorem d_M_seal_5 : decode b_M_seal 5 = .ok (.iconst 1, 1) := by decide +kernel
theorem d_M_seal_6 : decode b_M_seal 6 = .ok (.if_icmp .le 5, 3) := by decide +kernel
theorem d_M_seal_9 : decode b_M_seal 9 = .ok (.iconst 0, 1) := by decide +kernel
theorem d_M_seal_10 : decode b_M_seal 10 = .ok (.ireturn, 1) := by decide +kernel
theorem d_M_seal_11 : decode b_M_seal 11 = .ok (.aload_n 0, 1) := by decide +kernel
theorem d_M_seal_12 : decode b_M_seal 12 = .ok (.iload_n 1, 1) := by decide +kernel
theorem d_M_seal_13 : decode b_M_seal 13 = .ok (.invokevirtual 82, 3) := by decide +kernel
theorem d_M_seal_16 : decode b_M_seal 16 = .ok (.istore_n 2, 1) := by decide +kernel
theorem d_M_seal_17 : decode b_M_seal 17 = .ok (.aload_n 0, 1) := by decide +kernel
theorem d_M_seal_18 : decode b_M_seal 18 = .ok (.getfield 7, 3) := by decide +kernel
theorem d_M_seal_21 : decode b_M_seal 21 = .ok (.iload_n 2, 1) := by decide +kernel
theorem d_M_seal_22 : decode b_M_seal 22 = .ok (.bipush 88, 2) := by decide +kernel
theorem d_M_seal_24 : decode b_M_seal 24 = .ok (.iadd, 1) := by decide +kernel
theorem d_M_seal_25 : decode b_M_seal 25 = .ok (.iconst 4, 1) := by decide +kernel
theorem d_M_seal_26 : decode b_M_seal 26 = .ok (.aload_n 0, 1) := by decide +kernel
theorem d_M_seal_27 : decode b_M_seal 27 = .ok (.aload_n 0, 1) := by decide +kernel
theorem d_M_seal_28 : decode b_M_seal 28 = .ok (.iload_n 1, 1) := by decide +kernel
theorem d_M_seal_29 : decode b_M_seal 29 = .ok (.invokevirtual 96, 3) := by decide +kernel
theorem d_M_seal_32 : decode b_M_seal 32 = .ok (.sipush 1024, 3) := by decide +kernel
theorem d_M_seal_35 : decode b_M_seal 35 = .ok (.iconst (-1), 1) := by decide +kernel
theorem d_M_seal_36 : decode b_M_seal 36 = .ok (.invokevirtual 42, 3) := by decide +kernel
theorem d_M_seal_39 : decode b_M_seal 39 = .ok (.i2l, 1) := by decide +kernel
theorem d_M_seal_40 : decode b_M_seal 40 = .ok (.invokestatic 29, 3) := by decide +kernel
theorem d_M_seal_43 : decode b_M_seal 43 = .ok (.aload_n 0, 1) := by decide +kernel
theorem d_M_seal_44 : decode b_M_seal 44 = .ok (.getfield 7, 3) := by decide +kernel
theorem d_M_seal_47 : decode b_M_seal 47 = .ok (.iload_n 2, 1) := by decide +kernel
theorem d_M_seal_48 : decode b_M_seal 48 = .ok (.bipush 16, 2) := by decide +kernel
theorem d_M_seal_50 : decode b_M_seal 50 = .ok (.iadd, 1) := by decide +kernel
theorem d_M_seal_51 : decode b_M_seal 51 = .ok (.iconst 4, 1) := by decide +kernel
theorem d_M_seal_52 : decode b_M_seal 52 = .ok (.aload_n 0, 1) := by decide +kernel
theorem d_M_seal_53 : decode b_M_seal 53 = .ok (.iload_n 2, 1) := by decide +kernel
theorem d_M_seal_54 : decode b_M_seal 54 = .ok (.bipush 92, 2) := by decide +kernel
theorem d_M_seal_56 : decode b_M_seal 56 = .ok (.iload_n 2, 1) := by decide +kernel
theorem d_M_seal_57 : decode b_M_seal 57 = .ok (.bipush 16, 2) := by decide +kernel
theorem d_M_seal_59 : decode b_M_seal 59 = .ok (.iadd, 1) := by decide +kernel
theorem d_M_seal_60 : decode b_M_seal 60 = .ok (.invokevirtual 42, 3) := by decide +kernel
theorem d_M_seal_63 : decode b_M_seal 63 = .ok (.i2l, 1) := by decide +kernel
theorem d_M_seal_64 : decode b_M_seal 64 = .ok (.invokestatic 29, 3) := by decide +kernel
theorem d_M_seal_67 : decode b_M_seal 67 = .ok (.iconst 1, 1) := by decide +kernel
theorem d_M_seal_68 : decode b_M_seal 68 = .ok (.ireturn, 1) := by decide +kernel
theorem d_M_writeCopy_0 : decode b_M_writeCopy 0 = .ok (.aload_n 0, 1) := by decide +kernel
theorem d_M_writeCopy_1 : decode b_M_writeCopy 1 = .ok (.iload_n 1, 1) := by decide +kernel
theorem d_M_writeCopy_2 : decode b_M_writeCopy 2 = .ok (.invokevirtual 82, 3) := by decide +kernel
theorem d_M_writeCopy_5 : decode b_M_writeCopy 5 = .ok (.istore_n 2, 1) := by decide +kernel
theorem d_M_writeCopy_6 : decode b_M_writeCopy 6 = .ok (.iconst 0, 1) := by decide +kernel
theorem d_M_writeCopy_7 : decode b_M_writeCopy 7 = .ok (.istore_n 3, 1) := by decide +kernel
theorem d_M_writeCopy_8 : decode b_M_writeCopy 8 = .ok (.iload_n 3, 1) := by decide +kernel
theorem d_M_writeCopy_9 : decode b_M_writeCopy 9 = .ok (.sipush 1024, 3) := by decide +kernel
theorem d_M_writeCopy_12 : decode b_M_writeCopy 12 = .ok (.if_icmp .ge 27, 3) := by decide +kernel
theorem d_M_writeCopy_15 : decode b_M_writeCopy 15 = .ok (.aload_n 0, 1) := by decide +kernel
theorem d_M_writeCopy_16 : decode b_M_writeCopy 16 = .ok (.getfield 7, 3) := by decide +kernel
theorem d_M_writeCopy_19 : decode b_M_writeCopy 19 = .ok (.aload_n 0, 1) := by decide +kernel
theorem d_M_writeCopy_20 : decode b_M_writeCopy 20 = .ok (.iload_n 1, 1) := by decide +kernel
theorem d_M_writeCopy_21 : decode b_M_writeCopy 21 = .ok (.invokevirtual 96, 3) := by decide +kernel
theorem d_M_writeCopy_24 : decode b_M_writeCopy 24 = .ok (.iload_n 3, 1) := by decide +kernel
theorem d_M_writeCopy_25 : decode b_M_writeCopy 25 = .ok (.iadd, 1) := by decide +kernel
theorem d_M_writeCopy_26 : decode b_M_writeCopy 26 = .ok (.aload_n 0, 1) := by decide +kernel
theorem d_M_writeCopy_27 : decode b_M_writeCopy 27 = .ok (.getfield 13, 3) := by decide +kernel
theorem d_M_writeCopy_30 : decode b_M_writeCopy 30 = .ok (.iload_n 3, 1) := by decide +kernel
theorem d_M_writeCopy_31 : decode b_M_writeCopy 31 = .ok (.iaload, 1) := by decide +kernel
theorem d_M_writeCopy_32 : decode b_M_writeCopy 32 = .ok (.iastore, 1) := by decide +kernel
theorem d_M_writeCopy_33 : decode b_M_writeCopy 33 = .ok (.iinc 3 1, 3) := by decide +kernel
theorem d_M_writeCopy_36 : decode b_M_writeCopy 36 = .ok (.goto (-28), 3) := by decide +kernel
theorem d_M_writeCopy_39 : decode b_M_writeCopy 39 = .ok (.iconst 0, 1) := by decide +kernel
theorem d_M_writeCopy_40 : decode b_M_writeCopy 40 = .ok (.istore_n 3, 1) := by decide +kernel
theorem d_M_writeCopy_41 : decode b_M_writeCopy 41 = .ok (.iload_n 3, 1) := by decide +kernel
theorem d_M_writeCopy_42 : decode b_M_writeCopy 42 = .ok (.sipush 512, 3) := by decide +kernel
theorem d_M_writeCopy_45 : decode b_M_writeCopy 45 = .ok (.if_icmp .ge 18, 3) := by decide +kernel
theorem d_M_writeCopy_48 : decode b_M_writeCopy 48 = .ok (.aload_n 0, 1) := by decide +kernel
theorem d_M_writeCopy_49 : decode b_M_writeCopy 49 = .ok (.getfield 7, 3) := by decide +kernel
theorem d_M_writeCopy_52 : decode b_M_writeCopy 52 = .ok (.iload_n 2, 1) := by decide +kernel
theorem d_M_writeCopy_53 : decode b_M_writeCopy 53 = .ok (.iload_n 3, 1) := by decide +kernel
theorem d_M_writeCopy_54 : decode b_M_writeCopy 54 = .ok (.iadd, 1) := by decide +kernel
theorem d_M_writeCopy_55 : decode b_M_writeCopy 55 = .ok (.iconst 0, 1) := by decide +kernel
theorem d_M_writeCopy_56 : decode b_M_writeCopy 56 = .ok (.iastore, 1) := by decide +kernel
theorem d_M_writeCopy_57 : decode b_M_writeCopy 57 = .ok (.iinc 3 1, 3) := by decide +kernel
theorem d_M_writeCopy_60 : decode b_M_writeCopy 60 = .ok (.goto (-19), 3) := by decide +kernel
theorem d_M_writeCopy_63 : decode b_M_writeCopy 63 = .ok (.iconst 0, 1) := by decide +kernel
theorem d_M_writeCopy_64 : decode b_M_writeCopy 64 = .ok (.istore_n 3, 1) := by decide +kernel
theorem d_M_writeCopy_65 : decode b_M_writeCopy 65 = .ok (.iload_n 3, 1) := by decide +kernel
theorem d_M_writeCopy_66 : decode b_M_writeCopy 66 = .ok (.bipush 8, 2) := by decide +kernel
theorem d_M_writeCopy_68 : decode b_M_writeCopy 68 = .ok (.if_icmp .ge 21, 3) := by decide +kernel
theorem d_M_writeCopy_71 : decode b_M_writeCopy 71 = .ok (.aload_n 0, 1) := by decide +kernel
theorem d_M_writeCopy_72 : decode b_M_writeCopy 72 = .ok (.getfield 7, 3) := by decide +kernel
theorem d_M_writeCopy_75 : decode b_M_writeCopy 75 = .ok (.iload_n 2, 1) := by decide +kernel
theorem d_M_writeCopy_76 : decode b_M_writeCopy 76 = .ok (.iload_n 3, 1) := by decide +kernel
theorem d_M_writeCopy_77 : decode b_M_writeCopy 77 = .ok (.iadd, 1) := by decide +kernel
theorem d_M_writeCopy_78 : decode b_M_writeCopy 78 = .ok (.iload_n 3, 1) := by decide +kernel
theorem d_M_writeCopy_79 : decode b_M_writeCopy 79 = .ok (.invokestatic 85, 3) := by decide +kernel
theorem d_M_writeCopy_82 : decode b_M_writeCopy 82 = .ok (.iastore, 1) := by decide +kernel
theorem d_M_writeCopy_83 : decode b_M_writeCopy 83 = .ok (.iinc 3 1, 3) := by decide +kernel
theorem d_M_writeCopy_86 : decode b_M_writeCopy 86 = .ok (.goto (-21), 3) := by decide +kernel
theorem d_M_writeCopy_89 : decode b_M_writeCopy 89 = .ok (.aload_n 0, 1) := by decide +kernel
theorem d_M_writeCopy_90 : decode b_M_writeCopy 90 = .ok (.getfield 7, 3) := by decide +kernel
theorem d_M_writeCopy_93 : decode b_M_writeCopy 93 = .ok (.iload_n 2, 1) := by decide +kernel
theorem d_M_writeCopy_94 : decode b_M_writeCopy 94 = .ok (.bipush 8, 2) := by decide +kernel
theorem d_M_writeCopy_96 : decode b_M_writeCopy 96 = .ok (.iadd, 1) := by decide +kernel
theorem d_M_writeCopy_97 : decode b_M_writeCopy 97 = .ok (.iconst 4, 1) := by decide +kernel
theorem d_M_writeCopy_98 : decode b_M_writeCopy 98 = .ok (.ldc2_w 88, 3) := by decide +kernel
theorem d_M_writeCopy_101 : decode b_M_writeCopy 101 = .ok (.invokestatic 29, 3) := by decide +kernel
theorem d_M_writeCopy_104 : decode b_M_writeCopy 104 = .ok (.aload_n 0, 1) := by decide +kernel
theorem d_M_writeCopy_105 : decode b_M_writeCopy 105 = .ok (.getfield 7, 3) := by decide +kernel
theorem d_M_writeCopy_108 : decode b_M_writeCopy 108 = .ok (.iload_n 2, 1) := by decide +kernel
theorem d_M_writeCopy_109 : decode b_M_writeCopy 109 = .ok (.bipush 12, 2) := by decide +kernel
theorem d_M_writeCopy_111 : decode b_M_writeCopy 111 = .ok (.iadd, 1) := by decide +kernel
theorem d_M_writeCopy_112 : decode b_M_writeCopy 112 = .ok (.iconst 4, 1) := by decide +kernel
theorem d_M_writeCopy_113 : decode b_M_writeCopy 113 = .ok (.ldc2_w 90, 3) := by decide +kernel
theorem d_M_writeCopy_116 : decode b_M_writeCopy 116 = .ok (.invokestatic 29, 3) := by decide +kernel
theorem d_M_writeCopy_119 : decode b_M_writeCopy 119 = .ok (.aload_n 0, 1) := by decide +kernel
theorem d_M_writeCopy_120 : decode b_M_writeCopy 120 = .ok (.getfield 7, 3) := by decide +kernel
theorem d_M_writeCopy_123 : decode b_M_writeCopy 123 = .ok (.iload_n 2, 1) := by decide +kernel
theorem d_M_writeCopy_124 : decode b_M_writeCopy 124 = .ok (.bipush 24, 2) := by decide +kernel
theorem d_M_writeCopy_126 : decode b_M_writeCopy 126 = .ok (.iadd, 1) := by decide +kernel
theorem d_M_writeCopy_127 : decode b_M_writeCopy 127 = .ok (.bipush 8, 2) := by decide +kernel
theorem d_M_writeCopy_129 : decode b_M_writeCopy 129 = .ok (.aload_n 0, 1) := by decide +kernel
theorem d_M_writeCopy_130 : decode b_M_writeCopy 130 = .ok (.iload_n 1, 1) := by decide +kernel
theorem d_M_writeCopy_131 : decode b_M_writeCopy 131 = .ok (.invokevirtual 46, 3) := by decide +kernel
theorem d_M_writeCopy_134 : decode b_M_writeCopy 134 = .ok (.i2l, 1) := by decide +kernel
theorem d_M_writeCopy_135 : decode b_M_writeCopy 135 = .ok (.invokestatic 29, 3) := by decide +kernel
theorem d_M_writeCopy_138 : decode b_M_writeCopy 138 = .ok (.aload_n 0, 1) := by decide +kernel
theorem d_M_writeCopy_139 : decode b_M_writeCopy 139 = .ok (.getfield 7, 3) := by decide +kernel
theorem d_M_writeCopy_142 : decode b_M_writeCopy 142 = .ok (.iload_n 2, 1) := by decide +kernel
theorem d_M_writeCopy_143 : decode b_M_writeCopy 143 = .ok (.bipush 32, 2) := by decide +kernel
theorem d_M_writeCopy_145 : decode b_M_writeCopy 145 = .ok (.iadd, 1) := by decide +kernel
theorem d_M_writeCopy_146 : decode b_M_writeCopy 146 = .ok (.bipush 8, 2) := by decide +kernel
theorem d_M_writeCopy_148 : decode b_M_writeCopy 148 = .ok (.aload_n 0, 1) := by decide +kernel
theorem d_M_writeCopy_149 : decode b_M_writeCopy 149 = .ok (.iconst 1, 1) := by decide +kernel
theorem d_M_writeCopy_150 : decode b_M_writeCopy 150 = .ok (.iload_n 1, 1) := by decide +kernel
theorem d_M_writeCopy_151 : decode b_M_writeCopy 151 = .ok (.isub, 1) := by decide +kernel
theorem d_M_writeCopy_152 : decode b_M_writeCopy 152 = .ok (.invokevirtual 46, 3) := by decide +kernel
theorem d_M_writeCopy_155 : decode b_M_writeCopy 155 = .ok (.i2l, 1) := by decide +kernel
theorem d_M_writeCopy_156 : decode b_M_writeCopy 156 = .ok (.invokestatic 29, 3) := by decide +kernel
theorem d_M_writeCopy_159 : decode b_M_writeCopy 159 = .ok (.aload_n 0, 1) := by decide +kernel
theorem d_M_writeCopy_160 : decode b_M_writeCopy 160 = .ok (.getfield 7, 3) := by decide +kernel
theorem d_M_writeCopy_163 : decode b_M_writeCopy 163 = .ok (.iload_n 2, 1) := by decide +kernel
theorem d_M_writeCopy_164 : decode b_M_writeCopy 164 = .ok (.bipush 40, 2) := by decide +kernel
theorem d_M_writeCopy_166 : decode b_M_writeCopy 166 = .ok (.iadd, 1) := by decide +kernel
theorem d_M_writeCopy_167 : decode b_M_writeCopy 167 = .ok (.bipush 8, 2) := by decide +kernel
theorem d_M_writeCopy_169 : decode b_M_writeCopy 169 = .ok (.ldc2_w 61, 3) := by decide +kernel
theorem d_M_writeCopy_172 : decode b_M_writeCopy 172 = .ok (.invokestatic 29, 3) := by decide +kernel
theorem d_M_writeCopy_175 : decode b_M_writeCopy 175 = .ok (.aload_n 0, 1) := by decide +kernel
theorem d_M_writeCopy_176 : decode b_M_writeCopy 176 = .ok (.getfield 7, 3) := by decide +kernel
theorem d_M_writeCopy_179 : decode b_M_writeCopy 179 = .ok (.iload_n 2, 1) := by decide +kernel
theorem d_M_writeCopy_180 : decode b_M_writeCopy 180 = .ok (.bipush 48, 2) := by decide +kernel
theorem d_M_writeCopy_182 : decode b_M_writeCopy 182 = .ok (.iadd, 1) := by decide +kernel
theorem d_M_writeCopy_183 : decode b_M_writeCopy 183 = .ok (.bipush 8, 2) := by decide +kernel
theorem d_M_writeCopy_185 : decode b_M_writeCopy 185 = .ok (.aload_n 0, 1) := by decide +kernel
theorem d_M_writeCopy_186 : decode b_M_writeCopy 186 = .ok (.getfield 19, 3) := by decide +kernel
theorem d_M_writeCopy_189 : decode b_M_writeCopy 189 = .ok (.iconst 4, 1) := by decide +kernel
theorem d_M_writeCopy_190 : decode b_M_writeCopy 190 = .ok (.isub, 1) := by decide +kernel
theorem d_M_writeCopy_191 : decode b_M_writeCopy 191 = .ok (.i2l, 1) := by decide +kernel
theorem d_M_writeCopy_192 : decode b_M_writeCopy 192 = .ok (.invokestatic 29, 3) := by decide +kernel
theorem d_M_writeCopy_195 : decode b_M_writeCopy 195 = .ok (.iconst 0, 1) := by decide +kernel
theorem d_M_writeCopy_196 : decode b_M_writeCopy 196 = .ok (.istore_n 3, 1) := by decide +kernel
theorem d_M_writeCopy_197 : decode b_M_writeCopy 197 = .ok (.iload_n 3, 1) := by decide +kernel
theorem d_M_writeCopy_198 : decode b_M_writeCopy 198 = .ok (.bipush 16, 2) := by decide +kernel
theorem d_M_writeCopy_200 : decode b_M_writeCopy 200 = .ok (.if_icmp .ge 26, 3) := by decide +kernel
theorem d_M_writeCopy_203 : decode b_M_writeCopy 203 = .ok (.aload_n 0, 1) := by decide +kernel
theorem d_M_writeCopy_204 : decode b_M_writeCopy 204 = .ok (.getfield 7, 3) := by decide +kernel
theorem d_M_writeCopy_207 : decode b_M_writeCopy 207 = .ok (.iload_n 2, 1) := by decide +kernel
theorem d_M_writeCopy_208 : decode b_M_writeCopy 208 = .ok (.bipush 56, 2) := by decide +kernel
theorem d_M_writeCopy_210 : decode b_M_writeCopy 210 = .ok (.iadd, 1) := by decide +kernel
theorem d_M_writeCopy_211 : decode b_M_writeCopy 211 = .ok (.iload_n 3, 1) := by decide +kernel
theorem d_M_writeCopy_212 : decode b_M_writeCopy 212 = .ok (.iadd, 1) := by decide +kernel
theorem d_M_writeCopy_213 : decode b_M_writeCopy 213 = .ok (.aload_n 0, 1) := by decide +kernel
theorem d_M_writeCopy_214 : decode b_M_writeCopy 214 = .ok (.getfield 16, 3) := by decide +kernel
theorem d_M_writeCopy_217 : decode b_M_writeCopy 217 = .ok (.iload_n 3, 1) := by decide +kernel
theorem d_M_writeCopy_218 : decode b_M_writeCopy 218 = .ok (.iaload, 1) := by decide +kernel
theorem d_M_writeCopy_219 : decode b_M_writeCopy 219 = .ok (.iastore, 1) := by decide +kernel
theorem d_M_writeCopy_220 : decode b_M_writeCopy 220 = .ok (.iinc 3 1, 3) := by decide +kernel
theorem d_M_writeCopy_223 : decode b_M_writeCopy 223 = .ok (.goto (-26), 3) := by decide +kernel
theorem d_M_writeCopy_226 : decode b_M_writeCopy 226 = .ok (.aload_n 0, 1) := by decide +kernel
theorem d_M_writeCopy_227 : decode b_M_writeCopy 227 = .ok (.getfield 7, 3) := by decide +kernel
theorem d_M_writeCopy_230 : decode b_M_writeCopy 230 = .ok (.iload_n 2, 1) := by decide +kernel
theorem d_M_writeCopy_231 : decode b_M_writeCopy 231 = .ok (.bipush 72, 2) := by decide +kernel
theorem d_M_writeCopy_233 : decode b_M_writeCopy 233 = .ok (.iadd, 1) := by decide +kernel
theorem d_M_writeCopy_234 : decode b_M_writeCopy 234 = .ok (.bipush 8, 2) := by decide +kernel
theorem d_M_writeCopy_236 : decode b_M_writeCopy 236 = .ok (.aload_n 0, 1) := by decide +kernel
theorem d_M_writeCopy_237 : decode b_M_writeCopy 237 = .ok (.iload_n 1, 1) := by decide +kernel
theorem d_M_writeCopy_238 : decode b_M_writeCopy 238 = .ok (.invokevirtual 50, 3) := by decide +kernel
theorem d_M_writeCopy_241 : decode b_M_writeCopy 241 = .ok (.i2l, 1) := by decide +kernel
theorem d_M_writeCopy_242 : decode b_M_writeCopy 242 = .ok (.invokestatic 29, 3) := by decide +kernel
theorem d_M_writeCopy_245 : decode b_M_writeCopy 245 = .ok (.aload_n 0, 1) := by decide +kernel
theorem d_M_writeCopy_246 : decode b_M_writeCopy 246 = .ok (.getfield 7, 3) := by decide +kernel
theorem d_M_writeCopy_249 : decode b_M_writeCopy 249 = .ok (.iload_n 2, 1) := by decide +kernel
theorem d_M_writeCopy_250 : decode b_M_writeCopy 250 = .ok (.bipush 80, 2) := by decide +kernel
theorem d_M_writeCopy_252 : decode b_M_writeCopy 252 = .ok (.iadd, 1) := by decide +kernel
theorem d_M_writeCopy_253 : decode b_M_writeCopy 253 = .ok (.iconst 4, 1) := by decide +kernel
theorem d_M_writeCopy_254 : decode b_M_writeCopy 254 = .ok (.ldc2_w 92, 3) := by decide +kernel
theorem d_M_writeCopy_257 : decode b_M_writeCopy 257 = .ok (.invokestatic 29, 3) := by decide +kernel
theorem d_M_writeCopy_260 : decode b_M_writeCopy 260 = .ok (.aload_n 0, 1) := by decide +kernel
theorem d_M_writeCopy_261 : decode b_M_writeCopy 261 = .ok (.getfield 7, 3) := by decide +kernel
theorem d_M_writeCopy_264 : decode b_M_writeCopy 264 = .ok (.iload_n 2, 1) := by decide +kernel
theorem d_M_writeCopy_265 : decode b_M_writeCopy 265 = .ok (.bipush 84, 2) := by decide +kernel
theorem d_M_writeCopy_267 : decode b_M_writeCopy 267 = .ok (.iadd, 1) := by decide +kernel
theorem d_M_writeCopy_268 : decode b_M_writeCopy 268 = .ok (.iconst 4, 1) := by decide +kernel
theorem d_M_writeCopy_269 : decode b_M_writeCopy 269 = .ok (.ldc2_w 94, 3) := by decide +kernel
theorem d_M_writeCopy_272 : decode b_M_writeCopy 272 = .ok (.invokestatic 29, 3) := by decide +kernel
theorem d_M_writeCopy_275 : decode b_M_writeCopy 275 = .ok (.aload_n 0, 1) := by decide +kernel
theorem d_M_writeCopy_276 : decode b_M_writeCopy 276 = .ok (.iload_n 1, 1) := by decide +kernel
theorem d_M_writeCopy_277 : decode b_M_writeCopy 277 = .ok (.invokevirtual 110, 3) := by decide +kernel
theorem d_M_writeCopy_280 : decode b_M_writeCopy 280 = .ok (.pop, 1) := by decide +kernel
theorem d_M_writeCopy_281 : decode b_M_writeCopy 281 = .ok (.return_, 1) := by decide +kernel
theorem d_M_writeTable_0 : decode b_M_writeTable 0 = .ok (.aload_n 0, 1) := by decide +kernel
theorem d_M_writeTable_1 : decode b_M_writeTable 1 = .ok (.iconst 0, 1) := by decide +kernel
theorem d_M_writeTable_2 : decode b_M_writeTable 2 = .ok (.invokevirtual 113, 3) := by decide +kernel
theorem d_M_writeTable_5 : decode b_M_writeTable 5 = .ok (.aload_n 0, 1) := by decide +kernel
theorem d_M_writeTable_6 : decode b_M_writeTable 6 = .ok (.iconst 1, 1) := by decide +kernel
theorem d_M_writeTable_7 : decode b_M_writeTable 7 = .ok (.invokevirtual 113, 3) := by decide +kernel
theorem d_M_writeTable_10 : decode b_M_writeTable 10 = .ok (.return_, 1) := by decide +kernel
theorem d_M_format_0 : decode b_M_format 0 = .ok (.aload_n 0, 1) := by decide +kernel
theorem d_M_format_1 : decode b_M_format 1 = .ok (.invokevirtual 117, 3) := by decide +kernel
theorem d_M_format_4 : decode b_M_format 4 = .ok (.iconst 0, 1) := by decide +kernel
theorem d_M_format_5 : decode b_M_format 5 = .ok (.istore_n 3, 1) := by decide +kernel
theorem d_M_format_6 : decode b_M_format 6 = .ok (.iload_n 3, 1) := by decide +kernel
theorem d_M_format_7 : decode b_M_format 7 = .ok (.sipush 1024, 3) := by decide +kernel
theorem d_M_format_10 : decode b_M_format 10 = .ok (.if_icmp .ge 16, 3) := by decide +kernel
theorem d_M_format_13 : decode b_M_format 13 = .ok (.aload_n 0, 1) := by decide +kernel
theorem d_M_format_14 : decode b_M_format 14 = .ok (.getfield 13, 3) := by decide +kernel
theorem d_M_format_17 : decode b_M_format 17 = .ok (.iload_n 3, 1) := by decide +kernel
theorem d_M_format_18 : decode b_M_format 18 = .ok (.iconst 0, 1) := by decide +kernel
theorem d_M_format_19 : decode b_M_format 19 = .ok (.iastore, 1) := by decide +kernel
theorem d_M_format_20 : decode b_M_format 20 = .ok (.iinc 3 1, 3) := by decide +kernel
theorem d_M_format_23 : decode b_M_format 23 = .ok (.goto (-17), 3) := by decide +kernel
theorem d_M_format_26 : decode b_M_format 26 = .ok (.aload_n 0, 1) := by decide +kernel
theorem d_M_format_27 : decode b_M_format 27 = .ok (.getfield 16, 3) := by decide +kernel
theorem d_M_format_30 : decode b_M_format 30 = .ok (.iconst 0, 1) := by decide +kernel
theorem d_M_format_31 : decode b_M_format 31 = .ok (.lload_n 1, 1) := by decide +kernel
theorem d_M_format_32 : decode b_M_format 32 = .ok (.invokestatic 120, 3) := by decide +kernel
theorem d_M_format_35 : decode b_M_format 35 = .ok (.aload_n 0, 1) := by decide +kernel
theorem d_M_format_36 : decode b_M_format 36 = .ok (.invokevirtual 124, 3) := by decide +kernel
theorem d_M_format_39 : decode b_M_format 39 = .ok (.return_, 1) := by decide +kernel
theorem d_M_taken_0 : decode b_M_taken 0 = .ok (.iconst 0, 1) := by decide +kernel
theorem d_M_taken_1 : decode b_M_taken 1 = .ok (.istore 4, 2) := by decide +kernel
theorem d_M_taken_3 : decode b_M_taken 3 = .ok (.iconst 0, 1) := by decide +kernel
theorem d_M_taken_4 : decode b_M_taken 4 = .ok (.istore 5, 2) := by decide +kernel
theorem d_M_taken_6 : decode b_M_taken 6 = .ok (.iload 5, 2) := by decide +kernel
theorem d_M_taken_8 : decode b_M_taken 8 = .ok (.bipush 8, 2) := by decide +kernel
theorem d_M_taken_10 : decode b_M_taken 10 = .ok (.if_icmp .ge 77, 3) := by decide +kernel
theorem d_M_taken_13 : decode b_M_taken 13 = .ok (.sipush 128, 3) := by decide +kernel
theorem d_M_taken_16 : decode b_M_taken 16 = .ok (.iload 5, 2) := by decide +kernel
theorem d_M_taken_18 : decode b_M_taken 18 = .ok (.imul, 1) := by decide +kernel
theorem d_M_taken_19 : decode b_M_taken 19 = .ok (.istore 6, 2) := by decide +kernel
theorem d_M_taken_21 : decode b_M_taken 21 = .ok (.iload 4, 2) := by decide +kernel
theorem d_M_taken_23 : decode b_M_taken 23 = .ok (.ifCond .ne 51, 3) := by decide +kernel
theorem d_M_taken_26 : decode b_M_taken 26 = .ok (.iload 5, 2) := by decide +kernel
theorem d_M_taken_28 : decode b_M_taken 28 = .ok (.iload_n 3, 1) := by decide +kernel
theorem d_M_taken_29 : decode b_M_taken 29 = .ok (.if_icmp .eq 49, 3) := by decide +kernel
theorem d_M_taken_32 : decode b_M_taken 32 = .ok (.aload_n 0, 1) := by decide +kernel
theorem d_M_taken_33 : decode b_M_taken 33 = .ok (.getfield 13, 3) := by decide +kernel
theorem d_M_taken_36 : decode b_M_taken 36 = .ok (.iload 6, 2) := by decide +kernel
theorem d_M_taken_38 : decode b_M_taken 38 = .ok (.invokestatic 63, 3) := by decide +kernel
theorem d_M_taken_41 : decode b_M_taken 41 = .ok (.ifCond .ne 37, 3) := by decide +kernel
theorem d_M_taken_44 : decode b_M_taken 44 = .ok (.aload_n 0, 1) := by decide +kernel
theorem d_M_taken_45 : decode b_M_taken 45 = .ok (.getfield 13, 3) := by decide +kernel
theorem d_M_taken_48 : decode b_M_taken 48 = .ok (.iload 6, 2) := by decide +kernel
theorem d_M_taken_50 : decode b_M_taken 50 = .ok (.invokestatic 67, 3) := by decide +kernel
theorem d_M_taken_53 : decode b_M_taken 53 = .ok (.iload_n 2, 1) := by decide +kernel
theorem d_M_taken_54 : decode b_M_taken 54 = .ok (.i2l, 1) := by decide +kernel
theorem d_M_taken_55 : decode b_M_taken 55 = .ok (.lcmp, 1) := by decide +kernel
theorem d_M_taken_56 : decode b_M_taken 56 = .ok (.ifCond .gt 22, 3) := by decide +kernel
theorem d_M_taken_59 : decode b_M_taken 59 = .ok (.iload_n 1, 1) := by decide +kernel
theorem d_M_taken_60 : decode b_M_taken 60 = .ok (.i2l, 1) := by decide +kernel
theorem d_M_taken_61 : decode b_M_taken 61 = .ok (.aload_n 0, 1) := by decide +kernel
theorem d_M_taken_62 : decode b_M_taken 62 = .ok (.getfield 13, 3) := by decide +kernel
theorem d_M_taken_65 : decode b_M_taken 65 = .ok (.iload 6, 2) := by decide +kernel
theorem d_M_taken_67 : decode b_M_taken 67 = .ok (.invokestatic 71, 3) := by decide +kernel
theorem d_M_taken_70 : decode b_M_taken 70 = .ok (.lcmp, 1) := by decide +kernel
theorem d_M_taken_71 : decode b_M_taken 71 = .ok (.ifCond .gt 7, 3) := by decide +kernel
theorem d_M_taken_74 : decode b_M_taken 74 = .ok (.iconst 1, 1) := by decide +kernel
theorem d_M_taken_75 : decode b_M_taken 75 = .ok (.goto 4, 3) := by decide +kernel
theorem d_M_taken_78 : decode b_M_taken 78 = .ok (.iconst 0, 1) := by decide +kernel
theorem d_M_taken_79 : decode b_M_taken 79 = .ok (.istore 4, 2) := by decide +kernel
theorem d_M_taken_81 : decode b_M_taken 81 = .ok (.iinc 5 1, 3) := by decide +kernel
theorem d_M_taken_84 : decode b_M_taken 84 = .ok (.goto (-78), 3) := by decide +kernel
theorem d_M_taken_87 : decode b_M_taken 87 = .ok (.iload 4, 2) := by decide +kernel
theorem d_M_taken_89 : decode b_M_taken 89 = .ok (.ireturn, 1) := by decide +kernel
theorem d_M_marked_0 : decode b_M_marked 0 = .ok (.iconst 0, 1) := by decide +kernel
theorem d_M_marked_1 : decode b_M_marked 1 = .ok (.istore_n 3, 1) := by decide +kernel
theorem d_M_marked_2 : decode b_M_marked 2 = .ok (.iconst 0, 1) := by decide +kernel
theorem d_M_marked_3 : decode b_M_marked 3 = .ok (.istore 4, 2) := by decide +kernel
theorem d_M_marked_5 : decode b_M_marked 5 = .ok (.iload 4, 2) := by decide +kernel
theorem d_M_marked_7 : decode b_M_marked 7 = .ok (.bipush 8, 2) := by decide +kernel
theorem d_M_marked_9 : decode b_M_marked 9 = .ok (.if_icmp .ge 101, 3) := by decide +kernel
theorem d_M_marked_12 : decode b_M_marked 12 = .ok (.sipush 128, 3) := by decide +kernel
theorem d_M_marked_15 : decode b_M_marked 15 = .ok (.iload 4, 2) := by decide +kernel
theorem d_M_marked_17 : decode b_M_marked 17 = .ok (.imul, 1) := by decide +kernel
theorem d_M_marked_18 : decode b_M_marked 18 = .ok (.bipush 16, 2) := by decide +kernel
theorem d_M_marked_20 : decode b_M_marked 20 = .ok (.iadd, 1) := by decide +kernel
theorem d_M_marked_21 : decode b_M_marked 21 = .ok (.istore 5, 2) := by decide +kernel
theorem d_M_marked_23 : decode b_M_marked 23 = .ok (.aload_n 0, 1) := by decide +kernel
theorem d_M_marked_24 : decode b_M_marked 24 = .ok (.getfield 13, 3) := by decide +kernel
theorem d_M_marked_27 : decode b_M_marked 27 = .ok (.iload 5, 2) := by decide +kernel
theorem d_M_marked_29 : decode b_M_marked 29 = .ok (.bipush 8, 2) := by decide +kernel
theorem d_M_marked_31 : decode b_M_marked 31 = .ok (.invokestatic 53, 3) := by decide +kernel
theorem d_M_marked_34 : decode b_M_marked 34 = .ok (.lload_n 1, 1) := by decide +kernel
theorem d_M_marked_35 : decode b_M_marked 35 = .ok (.lcmp, 1) := by decide +kernel
theorem d_M_marked_36 : decode b_M_marked 36 = .ok (.ifCond .ne 34, 3) := by decide +kernel
theorem d_M_marked_39 : decode b_M_marked 39 = .ok (.aload_n 0, 1) := by decide +kernel
theorem d_M_marked_40 : decode b_M_marked 40 = .ok (.getfield 13, 3) := by decide +kernel
theorem d_M_marked_43 : decode b_M_marked 43 = .ok (.iload 5, 2) := by decide +kernel
theorem d_M_marked_45 : decode b_M_marked 45 = .ok (.bipush 8, 2) := by decide +kernel
theorem d_M_marked_47 : decode b_M_marked 47 = .ok (.iadd, 1) := by decide +kernel
theorem d_M_marked_48 : decode b_M_marked 48 = .ok (.bipush 8, 2) := by decide +kernel
theorem d_M_marked_50 : decode b_M_marked 50 = .ok (.invokestatic 53, 3) := by decide +kernel
theorem d_M_marked_53 : decode b_M_marked 53 = .ok (.lload_n 1, 1) := by decide +kernel
theorem d_M_marked_54 : decode b_M_marked 54 = .ok (.ldc2_w 33, 3) := by decide +kernel
theorem d_M_marked_57 : decode b_M_marked 57 = .ok (.lmul, 1) := by decide +kernel
theorem d_M_marked_58 : decode b_M_marked 58 = .ok (.ldc2_w 35, 3) := by decide +kernel
theorem d_M_marked_61 : decode b_M_marked 61 = .ok (.ladd, 1) := by decide +kernel
theorem d_M_marked_62 : decode b_M_marked 62 = .ok (.lcmp, 1) := by decide +kernel
theorem d_M_marked_63 : decode b_M_marked 63 = .ok (.ifCond .ne 7, 3) := by decide +kernel
theorem d_M_marked_66 : decode b_M_marked 66 = .ok (.iconst 1, 1) := by decide +kernel
theorem d_M_marked_67 : decode b_M_marked 67 = .ok (.goto 4, 3) := by decide +kernel
theorem d_M_marked_70 : decode b_M_marked 70 = .ok (.iconst 0, 1) := by decide +kernel
theorem d_M_marked_71 : decode b_M_marked 71 = .ok (.istore 6, 2) := by decide +kernel
theorem d_M_marked_73 : decode b_M_marked 73 = .ok (.iload_n 3, 1) := by decide +kernel
theorem d_M_marked_74 : decode b_M_marked 74 = .ok (.ifCond .ne 24, 3) := by decide +kernel
theorem d_M_marked_77 : decode b_M_marked 77 = .ok (.iload 6, 2) := by decide +kernel
theorem d_M_marked_79 : decode b_M_marked 79 = .ok (.ifCond .eq 23, 3) := by decide +kernel
theorem d_M_marked_82 : decode b_M_marked 82 = .ok (.aload_n 0, 1) := by decide +kernel
theorem d_M_marked_83 : decode b_M_marked 83 = .ok (.getfield 13, 3) := by decide +kernel
theorem d_M_marked_86 : decode b_M_marked 86 = .ok (.sipush 128, 3) := by decide +kernel
theorem d_M_marked_89 : decode b_M_marked 89 = .ok (.iload 4, 2) := by decide +kernel
theorem d_M_marked_91 : decode b_M_marked 91 = .ok (.imul, 1) := by decide +kernel
theorem d_M_marked_92 : decode b_M_marked 92 = .ok (.invokestatic 63, 3) := by decide +kernel
theorem d_M_marked_95 : decode b_M_marked 95 = .ok (.ifCond .ne 7, 3) := by decide +kernel
theorem d_M_marked_98 : decode b_M_marked 98 = .ok (.iconst 1, 1) := by decide +kernel
theorem d_M_marked_99 : decode b_M_marked 99 = .ok (.goto 4, 3) := by decide +kernel
theorem d_M_marked_102 : decode b_M_marked 102 = .ok (.iconst 0, 1) := by decide +kernel
theorem d_M_marked_103 : decode b_M_marked 103 = .ok (.istore_n 3, 1) := by decide +kernel
theorem d_M_marked_104 : decode b_M_marked 104 = .ok (.iinc 4 1, 3) := by decide +kernel
theorem d_M_marked_107 : decode b_M_marked 107 = .ok (.goto (-102), 3) := by decide +kernel
theorem d_M_marked_110 : decode b_M_marked 110 = .ok (.iload_n 3, 1) := by decide +kernel
theorem d_M_marked_111 : decode b_M_marked 111 = .ok (.ireturn, 1) := by decide +kernel
theorem d_M_make_0 : decode b_M_make 0 = .ok (.aload_n 0, 1) := by decide +kernel
theorem d_M_make_1 : decode b_M_make 1 = .ok (.invokevirtual 127, 3) := by decide +kernel
theorem d_M_make_4 : decode b_M_make 4 = .ok (.ifCond .ne 5, 3) := by decide +kernel
theorem d_M_make_7 : decode b_M_make 7 = .ok (.iconst (-1), 1) := by decide +kernel
theorem d_M_make_8 : decode b_M_make 8 = .ok (.ireturn, 1) := by decide +kernel
theorem d_M_make_9 : decode b_M_make 9 = .ok (.lload_n 3, 1) := by decide +kernel
theorem d_M_make_10 : decode b_M_make 10 = .ok (.lconst 0, 1) := by decide +kernel
theorem d_M_make_11 : decode b_M_make 11 = .ok (.lcmp, 1) := by decide +kernel
theorem d_M_make_12 : decode b_M_make 12 = .ok (.ifCond .ne 6, 3) := by decide +kernel
theorem d_M_make_15 : decode b_M_make 15 = .ok (.bipush (-2), 2) := by decide +kernel
theorem d_M_make_17 : decode b_M_make 17 = .ok (.ireturn, 1) := by decide +kernel
theorem d_M_make_18 : decode b_M_make 18 = .ok (.aload_n 0, 1) := by decide +kernel
theorem d_M_make_19 : decode b_M_make 19 = .ok (.iload_n 1, 1) := by decide +kernel
theorem d_M_make_20 : decode b_M_make 20 = .ok (.i2l, 1) := by decide +kernel
theorem d_M_make_21 : decode b_M_make 21 = .ok (.iload_n 2, 1) := by decide +kernel
theorem d_M_make_22 : decode b_M_make 22 = .ok (.i2l, 1) := by decide +kernel
theorem d_M_make_23 : decode b_M_make 23 = .ok (.invokevirtual 74, 3) := by decide +kernel
theorem d_M_make_26 : decode b_M_make 26 = .ok (.ifCond .eq 6, 3) := by decide +kernel
theorem d_M_make_29 : decode b_M_make 29 = .ok (.bipush (-3), 2) := by decide +kernel
theorem d_M_make_31 : decode b_M_make 31 = .ok (.ireturn, 1) := by decide +kernel
theorem d_M_make_32 : decode b_M_make 32 = .ok (.aload_n 0, 1) := by decide +kernel
theorem d_M_make_33 : decode b_M_make 33 = .ok (.iload_n 1, 1) := by decide +kernel
theorem d_M_make_34 : decode b_M_make 34 = .ok (.iload_n 2, 1) := by decide +kernel
theorem d_M_make_35 : decode b_M_make 35 = .ok (.iconst (-1), 1) := by decide +kernel
theorem d_M_make_36 : decode b_M_make 36 = .ok (.invokevirtual 131, 3) := by decide +kernel
theorem d_M_make_39 : decode b_M_make 39 = .ok (.ifCond .eq 6, 3) := by decide +kernel
theorem d_M_make_42 : decode b_M_make 42 = .ok (.bipush (-4), 2) := by decide +kernel
theorem d_M_make_44 : decode b_M_make 44 = .ok (.ireturn, 1) := by decide +kernel
theorem d_M_make_45 : decode b_M_make 45 = .ok (.aload_n 0, 1) := by decide +kernel
theorem d_M_make_46 : decode b_M_make 46 = .ok (.lload 5, 2) := by decide +kernel
theorem d_M_make_48 : decode b_M_make 48 = .ok (.invokevirtual 135, 3) := by decide +kernel
theorem d_M_make_51 : decode b_M_make 51 = .ok (.ifCond .eq 6, 3) := by decide +kernel
theorem d_M_make_54 : decode b_M_make 54 = .ok (.bipush (-5), 2) := by decide +kernel
theorem d_M_make_56 : decode b_M_make 56 = .ok (.ireturn, 1) := by decide +kernel
theorem d_M_make_57 : decode b_M_make 57 = .ok (.iconst 0, 1) := by decide +kernel
theorem d_M_make_58 : decode b_M_make 58 = .ok (.istore 9, 2) := by decide +kernel
theorem d_M_make_60 : decode b_M_make 60 = .ok (.iload 9, 2) := by decide +kernel
theorem d_M_make_62 : decode b_M_make 62 = .ok (.bipush 8, 2) := by decide +kernel
theorem d_M_make_64 : decode b_M_make 64 = .ok (.if_icmp .ge 25, 3) := by decide +kernel
theorem d_M_make_67 : decode b_M_make 67 = .ok (.aload_n 0, 1) := by decide +kernel
theorem d_M_make_68 : decode b_M_make 68 = .ok (.getfield 13, 3) := by decide +kernel
theorem d_M_make_71 : decode b_M_make 71 = .ok (.sipush 128, 3) := by decide +kernel
theorem d_M_make_74 : decode b_M_make 74 = .ok (.iload 9, 2) := by decide +kernel
theorem d_M_make_76 : decode b_M_make 76 = .ok (.imul, 1) := by decide +kernel
theorem d_M_make_77 : decode b_M_make 77 = .ok (.invokestatic 63, 3) := by decide +kernel
theorem d_M_make_80 : decode b_M_make 80 = .ok (.ifCond .ne 9, 3) := by decide +kernel
theorem d_M_make_83 : decode b_M_make 83 = .ok (.iinc 9 1, 3) := by decide +kernel
theorem d_M_make_86 : decode b_M_make 86 = .ok (.goto (-26), 3) := by decide +kernel
theorem d_M_make_89 : decode b_M_make 89 = .ok (.iload 9, 2) := by decide +kernel
theorem d_M_make_91 : decode b_M_make 91 = .ok (.bipush 8, 2) := by decide +kernel
theorem d_M_make_93 : decode b_M_make 93 = .ok (.if_icmp .ne 6, 3) := by decide +kernel
theorem d_M_make_96 : decode b_M_make 96 = .ok (.bipush (-6), 2) := by decide +kernel
theorem d_M_make_98 : decode b_M_make 98 = .ok (.ireturn, 1) := by decide +kernel
theorem d_M_make_99 : decode b_M_make 99 = .ok (.sipush 128, 3) := by decide +kernel
theorem d_M_make_102 : decode b_M_make 102 = .ok (.iload 9, 2) := by decide +kernel
theorem d_M_make_104 : decode b_M_make 104 = .ok (.imul, 1) := by decide +kernel
theorem d_M_make_105 : decode b_M_make 105 = .ok (.istore 10, 2) := by decide +kernel
theorem d_M_make_107 : decode b_M_make 107 = .ok (.iconst 0, 1) := by decide +kernel
theorem d_M_make_108 : decode b_M_make 108 = .ok (.istore 11, 2) := by decide +kernel
theorem d_M_make_110 : decode b_M_make 110 = .ok (.iload 11, 2) := by decide +kernel
theorem d_M_make_112 : decode b_M_make 112 = .ok (.sipush 128, 3) := by decide +kernel
theorem d_M_make_115 : decode b_M_make 115 = .ok (.if_icmp .ge 20, 3) := by decide +kernel
theorem d_M_make_118 : decode b_M_make 118 = .ok (.aload_n 0, 1) := by decide +kernel
theorem d_M_make_119 : decode b_M_make 119 = .ok (.getfield 13, 3) := by decide +kernel
theorem d_M_make_122 : decode b_M_make 122 = .ok (.iload 10, 2) := by decide +kernel
theorem d_M_make_124 : decode b_M_make 124 = .ok (.iload 11, 2) := by decide +kernel
theorem d_M_make_126 : decode b_M_make 126 = .ok (.iadd, 1) := by decide +kernel
theorem d_M_make_127 : decode b_M_make 127 = .ok (.iconst 0, 1) := by decide +kernel
theorem d_M_make_128 : decode b_M_make 128 = .ok (.iastore, 1) := by decide +kernel
theorem d_M_make_129 : decode b_M_make 129 = .ok (.iinc 11 1, 3) := by decide +kernel
theorem d_M_make_132 : decode b_M_make 132 = .ok (.goto (-22), 3) := by decide +kernel
theorem d_M_make_135 : decode b_M_make 135 = .ok (.aload_n 0, 1) := by decide +kernel
theorem d_M_make_136 : decode b_M_make 136 = .ok (.getfield 13, 3) := by decide +kernel
theorem d_M_make_139 : decode b_M_make 139 = .ok (.iload 10, 2) := by decide +kernel
theorem d_M_make_141 : decode b_M_make 141 = .ok (.lload_n 3, 1) := by decide +kernel
theorem d_M_make_142 : decode b_M_make 142 = .ok (.invokestatic 120, 3) := by decide +kernel
theorem d_M_make_145 : decode b_M_make 145 = .ok (.aload_n 0, 1) := by decide +kernel
theorem d_M_make_146 : decode b_M_make 146 = .ok (.getfield 13, 3) := by decide +kernel
theorem d_M_make_149 : decode b_M_make 149 = .ok (.iload 10, 2) := by decide +kernel
theorem d_M_make_151 : decode b_M_make 151 = .ok (.bipush 16, 2) := by decide +kernel
theorem d_M_make_153 : decode b_M_make 153 = .ok (.iadd, 1) := by decide +kernel
theorem d_M_make_154 : decode b_M_make 154 = .ok (.lload 5, 2) := by decide +kernel
theorem d_M_make_156 : decode b_M_make 156 = .ok (.invokestatic 120, 3) := by decide +kernel
theorem d_M_make_159 : decode b_M_make 159 = .ok (.aload_n 0, 1) := by decide +kernel
theorem d_M_make_160 : decode b_M_make 160 = .ok (.getfield 13, 3) := by decide +kernel
theorem d_M_make_163 : decode b_M_make 163 = .ok (.iload 10, 2) := by decide +kernel
theorem d_M_make_165 : decode b_M_make 165 = .ok (.bipush 32, 2) := by decide +kernel
theorem d_M_make_167 : decode b_M_make 167 = .ok (.iadd, 1) := by decide +kernel
theorem d_M_make_168 : decode b_M_make 168 = .ok (.bipush 8, 2) := by decide +kernel
theorem d_M_make_170 : decode b_M_make 170 = .ok (.iload_n 1, 1) := by decide +kernel
theorem d_M_make_171 : decode b_M_make 171 = .ok (.i2l, 1) := by decide +kernel
theorem d_M_make_172 : decode b_M_make 172 = .ok (.invokestatic 29, 3) := by decide +kernel
theorem d_M_make_175 : decode b_M_make 175 = .ok (.aload_n 0, 1) := by decide +kernel
theorem d_M_make_176 : decode b_M_make 176 = .ok (.getfield 13, 3) := by decide +kernel
theorem d_M_make_179 : decode b_M_make 179 = .ok (.iload 10, 2) := by decide +kernel
theorem d_M_make_181 : decode b_M_make 181 = .ok (.bipush 40, 2) := by decide +kernel
theorem d_M_make_183 : decode b_M_make 183 = .ok (.iadd, 1) := by decide +kernel
theorem d_M_make_184 : decode b_M_make 184 = .ok (.bipush 8, 2) := by decide +kernel
theorem d_M_make_186 : decode b_M_make 186 = .ok (.iload_n 2, 1) := by decide +kernel
theorem d_M_make_187 : decode b_M_make 187 = .ok (.i2l, 1) := by decide +kernel
theorem d_M_make_188 : decode b_M_make 188 = .ok (.invokestatic 29, 3) := by decide +kernel
theorem d_M_make_191 : decode b_M_make 191 = .ok (.aload_n 0, 1) := by decide +kernel
theorem d_M_make_192 : decode b_M_make 192 = .ok (.getfield 13, 3) := by decide +kernel
theorem d_M_make_195 : decode b_M_make 195 = .ok (.iload 10, 2) := by decide +kernel
theorem d_M_make_197 : decode b_M_make 197 = .ok (.bipush 48, 2) := by decide +kernel
theorem d_M_make_199 : decode b_M_make 199 = .ok (.iadd, 1) := by decide +kernel
theorem d_M_make_200 : decode b_M_make 200 = .ok (.bipush 8, 2) := by decide +kernel
theorem d_M_make_202 : decode b_M_make 202 = .ok (.lload 7, 2) := by decide +kernel
theorem d_M_make_204 : decode b_M_make 204 = .ok (.invokestatic 29, 3) := by decide +kernel
theorem d_M_make_207 : decode b_M_make 207 = .ok (.aload_n 0, 1) := by decide +kernel
theorem d_M_make_208 : decode b_M_make 208 = .ok (.invokevirtual 124, 3) := by decide +kernel
theorem d_M_make_211 : decode b_M_make 211 = .ok (.iload 9, 2) := by decide +kernel
theorem d_M_make_213 : decode b_M_make 213 = .ok (.ireturn, 1) := by decide +kernel
theorem d_M_has_0 : decode b_M_has 0 = .ok (.aload_n 0, 1) := by decide +kernel
theorem d_M_has_1 : decode b_M_has 1 = .ok (.invokevirtual 127, 3) := by decide +kernel
theorem d_M_has_4 : decode b_M_has 4 = .ok (.ifCond .eq 46, 3) := by decide +kernel
theorem d_M_has_7 : decode b_M_has 7 = .ok (.iload_n 1, 1) := by decide +kernel
theorem d_M_has_8 : decode b_M_has 8 = .ok (.ifCond .lt 42, 3) := by decide +kernel
theorem d_M_has_11 : decode b_M_has 11 = .ok (.iload_n 1, 1) := by decide +kernel
theorem d_M_has_12 : decode b_M_has 12 = .ok (.bipush 8, 2) := by decide +kernel
theorem d_M_has_14 : decode b_M_has 14 = .ok (.if_icmp .ge 36, 3) := by decide +kernel
theorem d_M_has_17 : decode b_M_has 17 = .ok (.aload_n 0, 1) := by decide +kernel
theorem d_M_has_18 : decode b_M_has 18 = .ok (.getfield 13, 3) := by decide +kernel
theorem d_M_has_21 : decode b_M_has 21 = .ok (.sipush 128, 3) := by decide +kernel
theorem d_M_has_24 : decode b_M_has 24 = .ok (.iload_n 1, 1) := by decide +kernel
theorem d_M_has_25 : decode b_M_has 25 = .ok (.ifCond .lt 9, 3) := by decide +kernel
theorem d_M_has_28 : decode b_M_has 28 = .ok (.iload_n 1, 1) := by decide +kernel
theorem d_M_has_29 : decode b_M_has 29 = .ok (.bipush 7, 2) := by decide +kernel
theorem d_M_has_31 : decode b_M_has 31 = .ok (.if_icmp .le 7, 3) := by decide +kernel
theorem d_M_has_34 : decode b_M_has 34 = .ok (.iconst 0, 1) := by decide +kernel
theorem d_M_has_35 : decode b_M_has 35 = .ok (.goto 4, 3) := by decide +kernel
theorem d_M_has_38 : decode b_M_has 38 = .ok (.iload_n 1, 1) := by decide +kernel
theorem d_M_has_39 : decode b_M_has 39 = .ok (.imul, 1) := by decide +kernel
theorem d_M_has_40 : decode b_M_has 40 = .ok (.invokestatic 63, 3) := by decide +kernel
theorem d_M_has_43 : decode b_M_has 43 = .ok (.ifCond .ne 7, 3) := by decide +kernel
theorem d_M_has_46 : decode b_M_has 46 = .ok (.iconst 1, 1) := by decide +kernel
theorem d_M_has_47 : decode b_M_has 47 = .ok (.goto 4, 3) := by decide +kernel
theorem d_M_has_50 : decode b_M_has 50 = .ok (.iconst 0, 1) := by decide +kernel
theorem d_M_has_51 : decode b_M_has 51 = .ok (.ireturn, 1) := by decide +kernel
theorem d_M_remove_0 : decode b_M_remove 0 = .ok (.aload_n 0, 1) := by decide +kernel
theorem d_M_remove_1 : decode b_M_remove 1 = .ok (.iload_n 1, 1) := by decide +kernel
theorem d_M_remove_2 : decode b_M_remove 2 = .ok (.invokevirtual 139, 3) := by decide +kernel
theorem d_M_remove_5 : decode b_M_remove 5 = .ok (.ifCond .ne 5, 3) := by decide +kernel
theorem d_M_remove_8 : decode b_M_remove 8 = .ok (.iconst 0, 1) := by decide +kernel
theorem d_M_remove_9 : decode b_M_remove 9 = .ok (.ireturn, 1) := by decide +kernel
theorem d_M_remove_10 : decode b_M_remove 10 = .ok (.iconst 0, 1) := by decide +kernel
theorem d_M_remove_11 : decode b_M_remove 11 = .ok (.istore_n 2, 1) := by decide +kernel
theorem d_M_remove_12 : decode b_M_remove 12 = .ok (.iload_n 2, 1) := by decide +kernel
theorem d_M_remove_13 : decode b_M_remove 13 = .ok (.sipush 128, 3) := by decide +kernel
theorem d_M_remove_16 : decode b_M_remove 16 = .ok (.if_icmp .ge 22, 3) := by decide +kernel
theorem d_M_remove_19 : decode b_M_remove 19 = .ok (.aload_n 0, 1) := by decide +kernel
theorem d_M_remove_20 : decode b_M_remove 20 = .ok (.getfield 13, 3) := by decide +kernel
theorem d_M_remove_23 : decode b_M_remove 23 = .ok (.sipush 128, 3) := by decide +kernel
theorem d_M_remove_26 : decode b_M_remove 26 = .ok (.iload_n 1, 1) := by decide +kernel
theorem d_M_remove_27 : decode b_M_remove 27 = .ok (.imul, 1) := by decide +kernel
theorem d_M_remove_28 : decode b_M_remove 28 = .ok (.iload_n 2, 1) := by decide +kernel
theorem d_M_remove_29 : decode b_M_remove 29 = .ok (.iadd, 1) := by decide +kernel
theorem d_M_remove_30 : decode b_M_remove 30 = .ok (.iconst 0, 1) := by decide +kernel
theorem d_M_remove_31 : decode b_M_remove 31 = .ok (.iastore, 1) := by decide +kernel
theorem d_M_remove_32 : decode b_M_remove 32 = .ok (.iinc 2 1, 3) := by decide +kernel
theorem d_M_remove_35 : decode b_M_remove 35 = .ok (.goto (-23), 3) := by decide +kernel
theorem d_M_remove_38 : decode b_M_remove 38 = .ok (.aload_n 0, 1) := by decide +kernel
theorem d_M_remove_39 : decode b_M_remove 39 = .ok (.invokevirtual 124, 3) := by decide +kernel
theorem d_M_remove_42 : decode b_M_remove 42 = .ok (.iconst 1, 1) := by decide +kernel
theorem d_M_remove_43 : decode b_M_remove 43 = .ok (.ireturn, 1) := by decide +kernel
theorem d_M_rename_0 : decode b_M_rename 0 = .ok (.aload_n 0, 1) := by decide +kernel
theorem d_M_rename_1 : decode b_M_rename 1 = .ok (.iload_n 1, 1) := by decide +kernel
theorem d_M_rename_2 : decode b_M_rename 2 = .ok (.invokevirtual 139, 3) := by decide +kernel
theorem d_M_rename_5 : decode b_M_rename 5 = .ok (.ifCond .eq 13, 3) := by decide +kernel
theorem d_M_rename_8 : decode b_M_rename 8 = .ok (.iload_n 2, 1) := by decide +kernel
theorem d_M_rename_9 : decode b_M_rename 9 = .ok (.ifCond .lt 9, 3) := by decide +kernel
theorem d_M_rename_12 : decode b_M_rename 12 = .ok (.iload_n 2, 1) := by decide +kernel
theorem d_M_rename_13 : decode b_M_rename 13 = .ok (.bipush 35, 2) := by decide +kernel
theorem d_M_rename_15 : decode b_M_rename 15 = .ok (.if_icmp .le 5, 3) := by decide +kernel
theorem d_M_rename_18 : decode b_M_rename 18 = .ok (.iconst 0, 1) := by decide +kernel
theorem d_M_rename_19 : decode b_M_rename 19 = .ok (.ireturn, 1) := by decide +kernel
theorem d_M_rename_20 : decode b_M_rename 20 = .ok (.aload_n 0, 1) := by decide +kernel
theorem d_M_rename_21 : decode b_M_rename 21 = .ok (.getfield 13, 3) := by decide +kernel
theorem d_M_rename_24 : decode b_M_rename 24 = .ok (.sipush 128, 3) := by decide +kernel
theorem d_M_rename_27 : decode b_M_rename 27 = .ok (.iload_n 1, 1) := by decide +kernel
theorem d_M_rename_28 : decode b_M_rename 28 = .ok (.imul, 1) := by decide +kernel
theorem d_M_rename_29 : decode b_M_rename 29 = .ok (.bipush 56, 2) := by decide +kernel
theorem d_M_rename_31 : decode b_M_rename 31 = .ok (.iadd, 1) := by decide +kernel
theorem d_M_rename_32 : decode b_M_rename 32 = .ok (.iconst 2, 1) := by decide +kernel
theorem d_M_rename_33 : decode b_M_rename 33 = .ok (.iload_n 2, 1) := by decide +kernel
theorem d_M_rename_34 : decode b_M_rename 34 = .ok (.imul, 1) := by decide +kernel
theorem d_M_rename_35 : decode b_M_rename 35 = .ok (.iadd, 1) := by decide +kernel
theorem d_M_rename_36 : decode b_M_rename 36 = .ok (.iconst 2, 1) := by decide +kernel
theorem d_M_rename_37 : decode b_M_rename 37 = .ok (.iload_n 3, 1) := by decide +kernel
theorem d_M_rename_38 : decode b_M_rename 38 = .ok (.i2l, 1) := by decide +kernel
theorem d_M_rename_39 : decode b_M_rename 39 = .ok (.invokestatic 29, 3) := by decide +kernel
theorem d_M_rename_42 : decode b_M_rename 42 = .ok (.aload_n 0, 1) := by decide +kernel
theorem d_M_rename_43 : decode b_M_rename 43 = .ok (.invokevirtual 124, 3) := by decide +kernel
theorem d_M_rename_46 : decode b_M_rename 46 = .ok (.iconst 1, 1) := by decide +kernel
theorem d_M_rename_47 : decode b_M_rename 47 = .ok (.ireturn, 1) := by decide +kernel
theorem d_M_move_0 : decode b_M_move 0 = .ok (.aload_n 0, 1) := by decide +kernel
theorem d_M_move_1 : decode b_M_move 1 = .ok (.iload_n 1, 1) := by decide +kernel
theorem d_M_move_2 : decode b_M_move 2 = .ok (.invokevirtual 139, 3) := by decide +kernel
theorem d_M_move_5 : decode b_M_move 5 = .ok (.ifCond .eq 24, 3) := by decide +kernel
theorem d_M_move_8 : decode b_M_move 8 = .ok (.aload_n 0, 1) := by decide +kernel
theorem d_M_move_9 : decode b_M_move 9 = .ok (.iload_n 2, 1) := by decide +kernel
theorem d_M_move_10 : decode b_M_move 10 = .ok (.i2l, 1) := by decide +kernel
theorem d_M_move_11 : decode b_M_move 11 = .ok (.iload_n 3, 1) := by decide +kernel
theorem d_M_move_12 : decode b_M_move 12 = .ok (.i2l, 1) := by decide +kernel
theorem d_M_move_13 : decode b_M_move 13 = .ok (.invokevirtual 74, 3) := by decide +kernel
theorem d_M_move_16 : decode b_M_move 16 = .ok (.ifCond .ne 13, 3) := by decide +kernel
theorem d_M_move_19 : decode b_M_move 19 = .ok (.aload_n 0, 1) := by decide +kernel
theorem d_M_move_20 : decode b_M_move 20 = .ok (.iload_n 2, 1) := by decide +kernel
theorem d_M_move_21 : decode b_M_move 21 = .ok (.iload_n 3, 1) := by decide +kernel
theorem d_M_move_22 : decode b_M_move 22 = .ok (.iload_n 1, 1) := by decide +kernel
theorem d_M_move_23 : decode b_M_move 23 = .ok (.invokevirtual 131, 3) := by decide +kernel
theorem d_M_move_26 : decode b_M_move 26 = .ok (.ifCond .eq 5, 3) := by decide +kernel
theorem d_M_move_29 : decode b_M_move 29 = .ok (.iconst 0, 1) := by decide +kernel
theorem d_M_move_30 : decode b_M_move 30 = .ok (.ireturn, 1) := by decide +kernel
theorem d_M_move_31 : decode b_M_move 31 = .ok (.aload_n 0, 1) := by decide +kernel
theorem d_M_move_32 : decode b_M_move 32 = .ok (.getfield 13, 3) := by decide +kernel
theorem d_M_move_35 : decode b_M_move 35 = .ok (.sipush 128, 3) := by decide +kernel
theorem d_M_move_38 : decode b_M_move 38 = .ok (.iload_n 1, 1) := by decide +kernel
theorem d_M_move_39 : decode b_M_move 39 = .ok (.imul, 1) := by decide +kernel
theorem d_M_move_40 : decode b_M_move 40 = .ok (.bipush 32, 2) := by decide +kernel
theorem d_M_move_42 : decode b_M_move 42 = .ok (.iadd, 1) := by decide +kernel
theorem d_M_move_43 : decode b_M_move 43 = .ok (.bipush 8, 2) := by decide +kernel
theorem d_M_move_45 : decode b_M_move 45 = .ok (.iload_n 2, 1) := by decide +kernel
theorem d_M_move_46 : decode b_M_move 46 = .ok (.i2l, 1) := by decide +kernel
theorem d_M_move_47 : decode b_M_move 47 = .ok (.invokestatic 29, 3) := by decide +kernel
theorem d_M_move_50 : decode b_M_move 50 = .ok (.aload_n 0, 1) := by decide +kernel
theorem d_M_move_51 : decode b_M_move 51 = .ok (.getfield 13, 3) := by decide +kernel
theorem d_M_move_54 : decode b_M_move 54 = .ok (.sipush 128, 3) := by decide +kernel
theorem d_M_move_57 : decode b_M_move 57 = .ok (.iload_n 1, 1) := by decide +kernel
theorem d_M_move_58 : decode b_M_move 58 = .ok (.imul, 1) := by decide +kernel
theorem d_M_move_59 : decode b_M_move 59 = .ok (.bipush 40, 2) := by decide +kernel
theorem d_M_move_61 : decode b_M_move 61 = .ok (.iadd, 1) := by decide +kernel
theorem d_M_move_62 : decode b_M_move 62 = .ok (.bipush 8, 2) := by decide +kernel
theorem d_M_move_64 : decode b_M_move 64 = .ok (.iload_n 3, 1) := by decide +kernel
theorem d_M_move_65 : decode b_M_move 65 = .ok (.i2l, 1) := by decide +kernel
theorem d_M_move_66 : decode b_M_move 66 = .ok (.invokestatic 29, 3) := by decide +kernel
theorem d_M_move_69 : decode b_M_move 69 = .ok (.aload_n 0, 1) := by decide +kernel
theorem d_M_move_70 : decode b_M_move 70 = .ok (.invokevirtual 124, 3) := by decide +kernel
theorem d_M_move_73 : decode b_M_move 73 = .ok (.iconst 1, 1) := by decide +kernel
theorem d_M_move_74 : decode b_M_move 74 = .ok (.ireturn, 1) := by decide +kernel
theorem d_M_repair_0 : decode b_M_repair 0 = .ok (.aload_n 0, 1) := by decide +kernel
theorem d_M_repair_1 : decode b_M_repair 1 = .ok (.invokevirtual 127, 3) := by decide +kernel
theorem d_M_repair_4 : decode b_M_repair 4 = .ok (.ifCond .ne 5, 3) := by decide +kernel
theorem d_M_repair_7 : decode b_M_repair 7 = .ok (.iconst (-1), 1) := by decide +kernel
theorem d_M_repair_8 : decode b_M_repair 8 = .ok (.ireturn, 1) := by decide +kernel
theorem d_M_repair_9 : decode b_M_repair 9 = .ok (.aload_n 0, 1) := by decide +kernel
theorem d_M_repair_10 : decode b_M_repair 10 = .ok (.iconst 0, 1) := by decide +kernel
theorem d_M_repair_11 : decode b_M_repair 11 = .ok (.invokevirtual 103, 3) := by decide +kernel
theorem d_M_repair_14 : decode b_M_repair 14 = .ok (.ifCond .eq 7, 3) := by decide +kernel
theorem d_M_repair_17 : decode b_M_repair 17 = .ok (.iconst 1, 1) := by decide +kernel
theorem d_M_repair_18 : decode b_M_repair 18 = .ok (.goto 4, 3) := by decide +kernel
theorem d_M_repair_21 : decode b_M_repair 21 = .ok (.iconst 0, 1) := by decide +kernel
theorem d_M_repair_22 : decode b_M_repair 22 = .ok (.istore_n 1, 1) := by decide +kernel
theorem d_M_repair_23 : decode b_M_repair 23 = .ok (.aload_n 0, 1) := by decide +kernel
theorem d_M_repair_24 : decode b_M_repair 24 = .ok (.iconst 1, 1) := by decide +kernel
theorem d_M_repair_25 : decode b_M_repair 25 = .ok (.invokevirtual 103, 3) := by decide +kernel
theorem d_M_repair_28 : decode b_M_repair 28 = .ok (.ifCond .eq 7, 3) := by decide +kernel
theorem d_M_repair_31 : decode b_M_repair 31 = .ok (.iconst 1, 1) := by decide +kernel
theorem d_M_repair_32 : decode b_M_repair 32 = .ok (.goto 4, 3) := by decide +kernel
theorem d_M_repair_35 : decode b_M_repair 35 = .ok (.iconst 0, 1) := by decide +kernel
theorem d_M_repair_36 : decode b_M_repair 36 = .ok (.istore_n 2, 1) := by decide +kernel
theorem d_M_repair_37 : decode b_M_repair 37 = .ok (.aload_n 0, 1) := by decide +kernel
theorem d_M_repair_38 : decode b_M_repair 38 = .ok (.getfield 7, 3) := by decide +kernel
theorem d_M_repair_41 : decode b_M_repair 41 = .ok (.aload_n 0, 1) := by decide +kernel
theorem d_M_repair_42 : decode b_M_repair 42 = .ok (.iconst 0, 1) := by decide +kernel
theorem d_M_repair_43 : decode b_M_repair 43 = .ok (.invokevirtual 96, 3) := by decide +kernel
theorem d_M_repair_46 : decode b_M_repair 46 = .ok (.aload_n 0, 1) := by decide +kernel
theorem d_M_repair_47 : decode b_M_repair 47 = .ok (.getfield 7, 3) := by decide +kernel
theorem d_M_repair_50 : decode b_M_repair 50 = .ok (.aload_n 0, 1) := by decide +kernel
theorem d_M_repair_51 : decode b_M_repair 51 = .ok (.iconst 1, 1) := by decide +kernel
theorem d_M_repair_52 : decode b_M_repair 52 = .ok (.invokevirtual 96, 3) := by decide +kernel
theorem d_M_repair_55 : decode b_M_repair 55 = .ok (.sipush 1024, 3) := by decide +kernel
theorem d_M_repair_58 : decode b_M_repair 58 = .ok (.invokestatic 78, 3) := by decide +kernel
theorem d_M_repair_61 : decode b_M_repair 61 = .ok (.ifCond .eq 39, 3) := by decide +kernel
theorem d_M_repair_64 : decode b_M_repair 64 = .ok (.aload_n 0, 1) := by decide +kernel
theorem d_M_repair_65 : decode b_M_repair 65 = .ok (.getfield 7, 3) := by decide +kernel
theorem d_M_repair_68 : decode b_M_repair 68 = .ok (.aload_n 0, 1) := by decide +kernel
theorem d_M_repair_69 : decode b_M_repair 69 = .ok (.iconst 0, 1) := by decide +kernel
theorem d_M_repair_70 : decode b_M_repair 70 = .ok (.invokevirtual 82, 3) := by decide +kernel
theorem d_M_repair_73 : decode b_M_repair 73 = .ok (.bipush 56, 2) := by decide +kernel
theorem d_M_repair_75 : decode b_M_repair 75 = .ok (.iadd, 1) := by decide +kernel
theorem d_M_repair_76 : decode b_M_repair 76 = .ok (.aload_n 0, 1) := by decide +kernel
theorem d_M_repair_77 : decode b_M_repair 77 = .ok (.getfield 7, 3) := by decide +kernel
theorem d_M_repair_80 : decode b_M_repair 80 = .ok (.aload_n 0, 1) := by decide +kernel
theorem d_M_repair_81 : decode b_M_repair 81 = .ok (.iconst 1, 1) := by decide +kernel
theorem d_M_repair_82 : decode b_M_repair 82 = .ok (.invokevirtual 82, 3) := by decide +kernel
theorem d_M_repair_85 : decode b_M_repair 85 = .ok (.bipush 56, 2) := by decide +kernel
theorem d_M_repair_87 : decode b_M_repair 87 = .ok (.iadd, 1) := by decide +kernel
theorem d_M_repair_88 : decode b_M_repair 88 = .ok (.bipush 16, 2) := by decide +kernel
theorem d_M_repair_90 : decode b_M_repair 90 = .ok (.invokestatic 78, 3) := by decide +kernel
theorem d_M_repair_93 : decode b_M_repair 93 = .ok (.ifCond .eq 7, 3) := by decide +kernel
theorem d_M_repair_96 : decode b_M_repair 96 = .ok (.iconst 1, 1) := by decide +kernel
theorem d_M_repair_97 : decode b_M_repair 97 = .ok (.goto 4, 3) := by decide +kernel
theorem d_M_repair_100 : decode b_M_repair 100 = .ok (.iconst 0, 1) := by decide +kernel
theorem d_M_repair_101 : decode b_M_repair 101 = .ok (.istore_n 3, 1) := by decide +kernel
theorem d_M_repair_102 : decode b_M_repair 102 = .ok (.iload_n 1, 1) := by decide +kernel
theorem d_M_repair_103 : decode b_M_repair 103 = .ok (.ifCond .ne 15, 3) := by decide +kernel
theorem d_M_repair_106 : decode b_M_repair 106 = .ok (.iload_n 2, 1) := by decide +kernel
theorem d_M_repair_107 : decode b_M_repair 107 = .ok (.ifCond .ne 11, 3) := by decide +kernel
theorem d_M_repair_110 : decode b_M_repair 110 = .ok (.iload_n 3, 1) := by decide +kernel
theorem d_M_repair_111 : decode b_M_repair 111 = .ok (.ifCond .ne 7, 3) := by decide +kernel
theorem d_M_repair_114 : decode b_M_repair 114 = .ok (.iconst 1, 1) := by decide +kernel
theorem d_M_repair_115 : decode b_M_repair 115 = .ok (.goto 4, 3) := by decide +kernel
theorem d_M_repair_118 : decode b_M_repair 118 = .ok (.iconst 0, 1) := by decide +kernel
theorem d_M_repair_119 : decode b_M_repair 119 = .ok (.istore 4, 2) := by decide +kernel
theorem d_M_repair_121 : decode b_M_repair 121 = .ok (.aload_n 0, 1) := by decide +kernel
theorem d_M_repair_122 : decode b_M_repair 122 = .ok (.invokevirtual 142, 3) := by decide +kernel
theorem d_M_repair_125 : decode b_M_repair 125 = .ok (.ifCond .eq 7, 3) := by decide +kernel
theorem d_M_repair_128 : decode b_M_repair 128 = .ok (.iconst 0, 1) := by decide +kernel
theorem d_M_repair_129 : decode b_M_repair 129 = .ok (.goto 4, 3) := by decide +kernel
theorem d_M_repair_132 : decode b_M_repair 132 = .ok (.iconst 1, 1) := by decide +kernel
theorem d_M_repair_133 : decode b_M_repair 133 = .ok (.iload_n 1, 1) := by decide +kernel
theorem d_M_repair_134 : decode b_M_repair 134 = .ok (.ifCond .eq 7, 3) := by decide +kernel
theorem d_M_repair_137 : decode b_M_repair 137 = .ok (.iconst 2, 1) := by decide +kernel
theorem d_M_repair_138 : decode b_M_repair 138 = .ok (.goto 4, 3) := by decide +kernel
theorem d_M_repair_141 : decode b_M_repair 141 = .ok (.iconst 0, 1) := by decide +kernel
theorem d_M_repair_142 : decode b_M_repair 142 = .ok (.iadd, 1) := by decide +kernel
theorem d_M_repair_143 : decode b_M_repair 143 = .ok (.iload_n 2, 1) := by decide +kernel
theorem d_M_repair_144 : decode b_M_repair 144 = .ok (.ifCond .eq 7, 3) := by decide +kernel
theorem d_M_repair_147 : decode b_M_repair 147 = .ok (.iconst 4, 1) := by decide +kernel
theorem d_M_repair_148 : decode b_M_repair 148 = .ok (.goto 4, 3) := by decide +kernel
theorem d_M_repair_151 : decode b_M_repair 151 = .ok (.iconst 0, 1) := by decide +kernel
theorem d_M_repair_152 : decode b_M_repair 152 = .ok (.iadd, 1) := by decide +kernel
theorem d_M_repair_153 : decode b_M_repair 153 = .ok (.iload 4, 2) := by decide +kernel
theorem d_M_repair_155 : decode b_M_repair 155 = .ok (.ifCond .eq 8, 3) := by decide +kernel
theorem d_M_repair_158 : decode b_M_repair 158 = .ok (.bipush 8, 2) := by decide +kernel
theorem d_M_repair_160 : decode b_M_repair 160 = .ok (.goto 4, 3) := by decide +kernel
theorem d_M_repair_163 : decode b_M_repair 163 = .ok (.iconst 0, 1) := by decide +kernel
theorem d_M_repair_164 : decode b_M_repair 164 = .ok (.iadd, 1) := by decide +kernel
theorem d_M_repair_165 : decode b_M_repair 165 = .ok (.istore 5, 2) := by decide +kernel
theorem d_M_repair_167 : decode b_M_repair 167 = .ok (.aload_n 0, 1) := by decide +kernel
theorem d_M_repair_168 : decode b_M_repair 168 = .ok (.invokevirtual 142, 3) := by decide +kernel
theorem d_M_repair_171 : decode b_M_repair 171 = .ok (.ifCond .ne 7, 3) := by decide +kernel
theorem d_M_repair_174 : decode b_M_repair 174 = .ok (.aload_n 0, 1) := by decide +kernel
theorem d_M_repair_175 : decode b_M_repair 175 = .ok (.invokevirtual 117, 3) := by decide +kernel
theorem d_M_repair_178 : decode b_M_repair 178 = .ok (.iload_n 1, 1) := by decide +kernel
theorem d_M_repair_179 : decode b_M_repair 179 = .ok (.ifCond .ne 12, 3) := by decide +kernel
theorem d_M_repair_182 : decode b_M_repair 182 = .ok (.iload_n 2, 1) := by decide +kernel
theorem d_M_repair_183 : decode b_M_repair 183 = .ok (.ifCond .ne 8, 3) := by decide +kernel
theorem d_M_repair_186 : decode b_M_repair 186 = .ok (.iload 4, 2) := by decide +kernel
theorem d_M_repair_188 : decode b_M_repair 188 = .ok (.ifCond .eq 7, 3) := by decide +kernel
theorem d_M_repair_191 : decode b_M_repair 191 = .ok (.aload_n 0, 1) := by decide +kernel
theorem d_M_repair_192 : decode b_M_repair 192 = .ok (.invokevirtual 124, 3) := by decide +kernel
theorem d_M_repair_195 : decode b_M_repair 195 = .ok (.iload 5, 2) := by decide +kernel
theorem d_M_repair_197 : decode b_M_repair 197 = .ok (.ireturn, 1) := by decide +kernel
theorem d_M_count_0 : decode b_M_count 0 = .ok (.aload_n 0, 1) := by decide +kernel
theorem d_M_count_1 : decode b_M_count 1 = .ok (.invokevirtual 127, 3) := by decide +kernel
theorem d_M_count_4 : decode b_M_count 4 = .ok (.ifCond .ne 5, 3) := by decide +kernel
theorem d_M_count_7 : decode b_M_count 7 = .ok (.iconst (-1), 1) := by decide +kernel
theorem d_M_count_8 : decode b_M_count 8 = .ok (.ireturn, 1) := by decide +kernel
theorem d_M_count_9 : decode b_M_count 9 = .ok (.iconst 0, 1) := by decide +kernel
theorem d_M_count_10 : decode b_M_count 10 = .ok (.istore_n 1, 1) := by decide +kernel
theorem d_M_count_11 : decode b_M_count 11 = .ok (.iconst 0, 1) := by decide +kernel
theorem d_M_count_12 : decode b_M_count 12 = .ok (.istore_n 2, 1) := by decide +kernel
theorem d_M_count_13 : decode b_M_count 13 = .ok (.iload_n 2, 1) := by decide +kernel
theorem d_M_count_14 : decode b_M_count 14 = .ok (.bipush 8, 2) := by decide +kernel
theorem d_M_count_16 : decode b_M_count 16 = .ok (.if_icmp .ge 32, 3) := by decide +kernel
theorem d_M_count_19 : decode b_M_count 19 = .ok (.iload_n 1, 1) := by decide +kernel
theorem d_M_count_20 : decode b_M_count 20 = .ok (.aload_n 0, 1) := by decide +kernel
theorem d_M_count_21 : decode b_M_count 21 = .ok (.getfield 13, 3) := by decide +kernel
theorem d_M_count_24 : decode b_M_count 24 = .ok (.sipush 128, 3) := by decide +kernel
theorem d_M_count_27 : decode b_M_count 27 = .ok (.iload_n 2, 1) := by decide +kernel
theorem d_M_count_28 : decode b_M_count 28 = .ok (.imul, 1) := by decide +kernel
theorem d_M_count_29 : decode b_M_count 29 = .ok (.invokestatic 63, 3) := by decide +kernel
theorem d_M_count_32 : decode b_M_count 32 = .ok (.ifCond .eq 7, 3) := by decide +kernel
theorem d_M_count_35 : decode b_M_count 35 = .ok (.iconst 0, 1) := by decide +kernel
theorem d_M_count_36 : decode b_M_count 36 = .ok (.goto 4, 3) := by decide +kernel
theorem d_M_count_39 : decode b_M_count 39 = .ok (.iconst 1, 1) := by decide +kernel
theorem d_M_count_40 : decode b_M_count 40 = .ok (.iadd, 1) := by decide +kernel
theorem d_M_count_41 : decode b_M_count 41 = .ok (.istore_n 1, 1) := by decide +kernel
theorem d_M_count_42 : decode b_M_count 42 = .ok (.iinc 2 1, 3) := by decide +kernel
theorem d_M_count_45 : decode b_M_count 45 = .ok (.goto (-32), 3) := by decide +kernel
theorem d_M_count_48 : decode b_M_count 48 = .ok (.iload_n 1, 1) := by decide +kernel
theorem d_M_count_49 : decode b_M_count 49 = .ok (.ireturn, 1) := by decide +kernel
theorem d_M_field_0 : decode b_M_field 0 = .ok (.iload_n 1, 1) := by decide +kernel
theorem d_M_field_1 : decode b_M_field 1 = .ok (.ifCond .lt 26, 3) := by decide +kernel
theorem d_M_field_4 : decode b_M_field 4 = .ok (.iload_n 1, 1) := by decide +kernel
theorem d_M_field_5 : decode b_M_field 5 = .ok (.bipush 7, 2) := by decide +kernel
theorem d_M_field_7 : decode b_M_field 7 = .ok (.if_icmp .gt 20, 3) := by decide +kernel
theorem d_M_field_10 : decode b_M_field 10 = .ok (.iload_n 2, 1) := by decide +kernel
theorem d_M_field_11 : decode b_M_field 11 = .ok (.ifCond .lt 16, 3) := by decide +kernel
theorem d_M_field_14 : decode b_M_field 14 = .ok (.iload_n 2, 1) := by decide +kernel
theorem d_M_field_15 : decode b_M_field 15 = .ok (.bipush 6, 2) := by decide +kernel
theorem d_M_field_17 : decode b_M_field 17 = .ok (.if_icmp .gt 10, 3) := by decide +kernel
theorem d_M_field_20 : decode b_M_field 20 = .ok (.aload_n 0, 1) := by decide +kernel
theorem d_M_field_21 : decode b_M_field 21 = .ok (.invokevirtual 127, 3) := by decide +kernel
theorem d_M_field_24 : decode b_M_field 24 = .ok (.ifCond .ne 5, 3) := by decide +kernel
theorem d_M_field_27 : decode b_M_field 27 = .ok (.lconst 0, 1) := by decide +kernel
theorem d_M_field_28 : decode b_M_field 28 = .ok (.lreturn, 1) := by decide +kernel
theorem d_M_field_29 : decode b_M_field 29 = .ok (.iload_n 2, 1) := by decide +kernel
theorem d_M_field_30 : decode b_M_field 30 = .ok (.iconst 3, 1) := by decide +kernel
theorem d_M_field_31 : decode b_M_field 31 = .ok (.if_icmp .ge 13, 3) := by decide +kernel
theorem d_M_field_34 : decode b_M_field 34 = .ok (.bipush 32, 2) := by decide +kernel
theorem d_M_field_36 : decode b_M_field 36 = .ok (.bipush 8, 2) := by decide +kernel
theorem d_M_field_38 : decode b_M_field 38 = .ok (.iload_n 2, 1) := by decide +kernel
theorem d_M_field_39 : decode b_M_field 39 = .ok (.imul, 1) := by decide +kernel
theorem d_M_field_40 : decode b_M_field 40 = .ok (.iadd, 1) := by decide +kernel
theorem d_M_field_41 : decode b_M_field 41 = .ok (.goto 9, 3) := by decide +kernel
theorem d_M_field_44 : decode b_M_field 44 = .ok (.bipush 8, 2) := by decide +kernel
theorem d_M_field_46 : decode b_M_field 46 = .ok (.iload_n 2, 1) := by decide +kernel
theorem d_M_field_47 : decode b_M_field 47 = .ok (.iconst 3, 1) := by decide +kernel
theorem d_M_field_48 : decode b_M_field 48 = .ok (.isub, 1) := by decide +kernel
theorem d_M_field_49 : decode b_M_field 49 = .ok (.imul, 1) := by decide +kernel
theorem d_M_field_50 : decode b_M_field 50 = .ok (.istore_n 3, 1) := by decide +kernel
theorem d_M_field_51 : decode b_M_field 51 = .ok (.aload_n 0, 1) := by decide +kernel
theorem d_M_field_52 : decode b_M_field 52 = .ok (.getfield 13, 3) := by decide +kernel
theorem d_M_field_55 : decode b_M_field 55 = .ok (.sipush 128, 3) := by decide +kernel
theorem d_M_field_58 : decode b_M_field 58 = .ok (.iload_n 1, 1) := by decide +kernel
theorem d_M_field_59 : decode b_M_field 59 = .ok (.imul, 1) := by decide +kernel
theorem d_M_field_60 : decode b_M_field 60 = .ok (.iload_n 3, 1) := by decide +kernel
theorem d_M_field_61 : decode b_M_field 61 = .ok (.iadd, 1) := by decide +kernel
theorem d_M_field_62 : decode b_M_field 62 = .ok (.bipush 8, 2) := by decide +kernel
theorem d_M_field_64 : decode b_M_field 64 = .ok (.invokestatic 53, 3) := by decide +kernel
theorem d_M_field_67 : decode b_M_field 67 = .ok (.lreturn, 1) := by decide +kernel
theorem d_M_letter_0 : decode b_M_letter 0 = .ok (.iload_n 1, 1) := by decide +kernel
theorem d_M_letter_1 : decode b_M_letter 1 = .ok (.ifCond .lt 26, 3) := by decide +kernel
theorem d_M_letter_4 : decode b_M_letter 4 = .ok (.iload_n 1, 1) := by decide +kernel
theorem d_M_letter_5 : decode b_M_letter 5 = .ok (.bipush 7, 2) := by decide +kernel
theorem d_M_letter_7 : decode b_M_letter 7 = .ok (.if_icmp .gt 20, 3) := by decide +kernel
theorem d_M_letter_10 : decode b_M_letter 10 = .ok (.iload_n 2, 1) := by decide +kernel
theorem d_M_letter_11 : decode b_M_letter 11 = .ok (.ifCond .lt 16, 3) := by decide +kernel
theorem d_M_letter_14 : decode b_M_letter 14 = .ok (.iload_n 2, 1) := by decide +kernel
theorem d_M_letter_15 : decode b_M_letter 15 = .ok (.bipush 35, 2) := by decide +kernel
theorem d_M_letter_17 : decode b_M_letter 17 = .ok (.if_icmp .gt 10, 3) := by decide +kernel
theorem d_M_letter_20 : decode b_M_letter 20 = .ok (.aload_n 0, 1) := by decide +kernel
theorem d_M_letter_21 : decode b_M_letter 21 = .ok (.invokevirtual 127, 3) := by decide +kernel
theorem d_M_letter_24 : decode b_M_letter 24 = .ok (.ifCond .ne 5, 3) := by decide +kernel
theorem d_M_letter_27 : decode b_M_letter 27 = .ok (.iconst 0, 1) := by decide +kernel
theorem d_M_letter_28 : decode b_M_letter 28 = .ok (.ireturn, 1) := by decide +kernel
theorem d_M_letter_29 : decode b_M_letter 29 = .ok (.aload_n 0, 1) := by decide +kernel
theorem d_M_letter_30 : decode b_M_letter 30 = .ok (.getfield 13, 3) := by decide +kernel
theorem d_M_letter_33 : decode b_M_letter 33 = .ok (.sipush 128, 3) := by decide +kernel
theorem d_M_letter_36 : decode b_M_letter 36 = .ok (.iload_n 1, 1) := by decide +kernel
theorem d_M_letter_37 : decode b_M_letter 37 = .ok (.imul, 1) := by decide +kernel
theorem d_M_letter_38 : decode b_M_letter 38 = .ok (.bipush 56, 2) := by decide +kernel
theorem d_M_letter_40 : decode b_M_letter 40 = .ok (.iadd, 1) := by decide +kernel
theorem d_M_letter_41 : decode b_M_letter 41 = .ok (.iconst 2, 1) := by decide +kernel
theorem d_M_letter_42 : decode b_M_letter 42 = .ok (.iload_n 2, 1) := by decide +kernel
theorem d_M_letter_43 : decode b_M_letter 43 = .ok (.imul, 1) := by decide +kernel
theorem d_M_letter_44 : decode b_M_letter 44 = .ok (.iadd, 1) := by decide +kernel
theorem d_M_letter_45 : decode b_M_letter 45 = .ok (.iconst 2, 1) := by decide +kernel
theorem d_M_letter_46 : decode b_M_letter 46 = .ok (.invokestatic 53, 3) := by decide +kernel
theorem d_M_letter_49 : decode b_M_letter 49 = .ok (.l2i, 1) := by decide +kernel
theorem d_M_letter_50 : decode b_M_letter 50 = .ok (.i2c, 1) := by decide +kernel
theorem d_M_letter_51 : decode b_M_letter 51 = .ok (.ireturn, 1) := by decide +kernel
theorem d_M_room_0 : decode b_M_room 0 = .ok (.aload_n 0, 1) := by decide +kernel
theorem d_M_room_1 : decode b_M_room 1 = .ok (.invokevirtual 127, 3) := by decide +kernel
theorem d_M_room_4 : decode b_M_room 4 = .ok (.ifCond .ne 5, 3) := by decide +kernel
theorem d_M_room_7 : decode b_M_room 7 = .ok (.iconst (-1), 1) := by decide +kernel
theorem d_M_room_8 : decode b_M_room 8 = .ok (.ireturn, 1) := by decide +kernel
theorem d_M_room_9 : decode b_M_room 9 = .ok (.iconst 0, 1) := by decide +kernel
theorem d_M_room_10 : decode b_M_room 10 = .ok (.istore_n 1, 1) := by decide +kernel
theorem d_M_room_11 : decode b_M_room 11 = .ok (.iconst 4, 1) := by decide +kernel
theorem d_M_room_12 : decode b_M_room 12 = .ok (.istore_n 2, 1) := by decide +kernel
theorem d_M_room_13 : decode b_M_room 13 = .ok (.iload_n 2, 1) := by decide +kernel
theorem d_M_room_14 : decode b_M_room 14 = .ok (.aload_n 0, 1) := by decide +kernel
theorem d_M_room_15 : decode b_M_room 15 = .ok (.getfield 19, 3) := by decide +kernel
theorem d_M_room_18 : decode b_M_room 18 = .ok (.iconst 4, 1) := by decide +kernel
theorem d_M_room_19 : decode b_M_room 19 = .ok (.isub, 1) := by decide +kernel
theorem d_M_room_20 : decode b_M_room 20 = .ok (.if_icmp .gt 27, 3) := by decide +kernel
theorem d_M_room_23 : decode b_M_room 23 = .ok (.iload_n 1, 1) := by decide +kernel
theorem d_M_room_24 : decode b_M_room 24 = .ok (.aload_n 0, 1) := by decide +kernel
theorem d_M_room_25 : decode b_M_room 25 = .ok (.iload_n 2, 1) := by decide +kernel
theorem d_M_room_26 : decode b_M_room 26 = .ok (.iload_n 2, 1) := by decide +kernel
theorem d_M_room_27 : decode b_M_room 27 = .ok (.iconst (-1), 1) := by decide +kernel
theorem d_M_room_28 : decode b_M_room 28 = .ok (.invokevirtual 131, 3) := by decide +kernel
theorem d_M_room_31 : decode b_M_room 31 = .ok (.ifCond .eq 7, 3) := by decide +kernel
theorem d_M_room_34 : decode b_M_room 34 = .ok (.iconst 0, 1) := by decide +kernel
theorem d_M_room_35 : decode b_M_room 35 = .ok (.goto 4, 3) := by decide +kernel
theorem d_M_room_38 : decode b_M_room 38 = .ok (.iconst 1, 1) := by decide +kernel
theorem d_M_room_39 : decode b_M_room 39 = .ok (.iadd, 1) := by decide +kernel
theorem d_M_room_40 : decode b_M_room 40 = .ok (.istore_n 1, 1) := by decide +kernel
theorem d_M_room_41 : decode b_M_room 41 = .ok (.iinc 2 1, 3) := by decide +kernel
theorem d_M_room_44 : decode b_M_room 44 = .ok (.goto (-31), 3) := by decide +kernel
theorem d_M_room_47 : decode b_M_room 47 = .ok (.iload_n 1, 1) := by decide +kernel
theorem d_M_room_48 : decode b_M_room 48 = .ok (.ireturn, 1) := by decide +kernel
