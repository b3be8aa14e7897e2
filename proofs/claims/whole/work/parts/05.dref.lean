theorem dX8_init_0 : decode cX8_init 0 = .ok (.aload_n 0, 1) := by decide +kernel
theorem dX8_init_1 : decode cX8_init 1 = .ok (.invokespecial 1, 3) := by decide +kernel
theorem dX8_init_4 : decode cX8_init 4 = .ok (.aload_n 0, 1) := by decide +kernel
theorem dX8_init_5 : decode cX8_init 5 = .ok (.iconst 1, 1) := by decide +kernel
theorem dX8_init_6 : decode cX8_init 6 = .ok (.putfield 7, 3) := by decide +kernel
theorem dX8_init_9 : decode cX8_init 9 = .ok (.aload_n 0, 1) := by decide +kernel
theorem dX8_init_10 : decode cX8_init 10 = .ok (.bipush 60, 2) := by decide +kernel
theorem dX8_init_12 : decode cX8_init 12 = .ok (.newarray .int, 2) := by decide +kernel
theorem dX8_init_14 : decode cX8_init 14 = .ok (.putfield 13, 3) := by decide +kernel
theorem dX8_init_17 : decode cX8_init 17 = .ok (.aload_n 0, 1) := by decide +kernel
theorem dX8_init_18 : decode cX8_init 18 = .ok (.bipush 60, 2) := by decide +kernel
theorem dX8_init_20 : decode cX8_init 20 = .ok (.newarray .int, 2) := by decide +kernel
theorem dX8_init_22 : decode cX8_init 22 = .ok (.putfield 17, 3) := by decide +kernel
theorem dX8_init_25 : decode cX8_init 25 = .ok (.aload_n 0, 1) := by decide +kernel
theorem dX8_init_26 : decode cX8_init 26 = .ok (.bipush 60, 2) := by decide +kernel
theorem dX8_init_28 : decode cX8_init 28 = .ok (.newarray .boolean, 2) := by decide +kernel
theorem dX8_init_30 : decode cX8_init 30 = .ok (.putfield 20, 3) := by decide +kernel
theorem dX8_init_33 : decode cX8_init 33 = .ok (.aload_n 0, 1) := by decide +kernel
theorem dX8_init_34 : decode cX8_init 34 = .ok (.bipush 60, 2) := by decide +kernel
theorem dX8_init_36 : decode cX8_init 36 = .ok (.newarray .int, 2) := by decide +kernel
theorem dX8_init_38 : decode cX8_init 38 = .ok (.putfield 24, 3) := by decide +kernel
theorem dX8_init_41 : decode cX8_init 41 = .ok (.aload_n 0, 1) := by decide +kernel
theorem dX8_init_42 : decode cX8_init 42 = .ok (.bipush 60, 2) := by decide +kernel
theorem dX8_init_44 : decode cX8_init 44 = .ok (.newarray .int, 2) := by decide +kernel
theorem dX8_init_46 : decode cX8_init 46 = .ok (.putfield 27, 3) := by decide +kernel
theorem dX8_init_49 : decode cX8_init 49 = .ok (.aload_n 0, 1) := by decide +kernel
theorem dX8_init_50 : decode cX8_init 50 = .ok (.bipush 20, 2) := by decide +kernel
theorem dX8_init_52 : decode cX8_init 52 = .ok (.newarray .int, 2) := by decide +kernel
theorem dX8_init_54 : decode cX8_init 54 = .ok (.putfield 30, 3) := by decide +kernel
theorem dX8_init_57 : decode cX8_init 57 = .ok (.aload_n 0, 1) := by decide +kernel
theorem dX8_init_58 : decode cX8_init 58 = .ok (.sipush 160, 3) := by decide +kernel
theorem dX8_init_61 : decode cX8_init 61 = .ok (.newarray .int, 2) := by decide +kernel
theorem dX8_init_63 : decode cX8_init 63 = .ok (.putfield 33, 3) := by decide +kernel
theorem dX8_init_66 : decode cX8_init 66 = .ok (.aload_n 0, 1) := by decide +kernel
theorem dX8_init_67 : decode cX8_init 67 = .ok (.sipush 160, 3) := by decide +kernel
theorem dX8_init_70 : decode cX8_init 70 = .ok (.newarray .int, 2) := by decide +kernel
theorem dX8_init_72 : decode cX8_init 72 = .ok (.putfield 36, 3) := by decide +kernel
theorem dX8_init_75 : decode cX8_init 75 = .ok (.aload_n 0, 1) := by decide +kernel
theorem dX8_init_76 : decode cX8_init 76 = .ok (.bipush 40, 2) := by decide +kernel
theorem dX8_init_78 : decode cX8_init 78 = .ok (.newarray .int, 2) := by decide +kernel
theorem dX8_init_80 : decode cX8_init 80 = .ok (.putfield 39, 3) := by decide +kernel
theorem dX8_init_83 : decode cX8_init 83 = .ok (.aload_n 0, 1) := by decide +kernel
theorem dX8_init_84 : decode cX8_init 84 = .ok (.bipush 40, 2) := by decide +kernel
theorem dX8_init_86 : decode cX8_init 86 = .ok (.newarray .int, 2) := by decide +kernel
theorem dX8_init_88 : decode cX8_init 88 = .ok (.putfield 42, 3) := by decide +kernel
theorem dX8_init_91 : decode cX8_init 91 = .ok (.aload_n 0, 1) := by decide +kernel
theorem dX8_init_92 : decode cX8_init 92 = .ok (.sipush 200, 3) := by decide +kernel
theorem dX8_init_95 : decode cX8_init 95 = .ok (.newarray .int, 2) := by decide +kernel
theorem dX8_init_97 : decode cX8_init 97 = .ok (.putfield 45, 3) := by decide +kernel
theorem dX8_init_100 : decode cX8_init 100 = .ok (.aload_n 0, 1) := by decide +kernel
theorem dX8_init_101 : decode cX8_init 101 = .ok (.sipush 160, 3) := by decide +kernel
theorem dX8_init_104 : decode cX8_init 104 = .ok (.newarray .int, 2) := by decide +kernel
theorem dX8_init_106 : decode cX8_init 106 = .ok (.putfield 48, 3) := by decide +kernel
theorem dX8_init_109 : decode cX8_init 109 = .ok (.aload_n 0, 1) := by decide +kernel
theorem dX8_init_110 : decode cX8_init 110 = .ok (.sipush 160, 3) := by decide +kernel
theorem dX8_init_113 : decode cX8_init 113 = .ok (.newarray .int, 2) := by decide +kernel
theorem dX8_init_115 : decode cX8_init 115 = .ok (.putfield 51, 3) := by decide +kernel
theorem dX8_init_118 : decode cX8_init 118 = .ok (.aload_n 0, 1) := by decide +kernel
theorem dX8_init_119 : decode cX8_init 119 = .ok (.bipush 61, 2) := by decide +kernel
theorem dX8_init_121 : decode cX8_init 121 = .ok (.newarray .int, 2) := by decide +kernel
theorem dX8_init_123 : decode cX8_init 123 = .ok (.putfield 54, 3) := by decide +kernel
theorem dX8_init_126 : decode cX8_init 126 = .ok (.aload_n 0, 1) := by decide +kernel
theorem dX8_init_127 : decode cX8_init 127 = .ok (.bipush 61, 2) := by decide +kernel
theorem dX8_init_129 : decode cX8_init 129 = .ok (.newarray .int, 2) := by decide +kernel
theorem dX8_init_131 : decode cX8_init 131 = .ok (.putfield 57, 3) := by decide +kernel
theorem dX8_init_134 : decode cX8_init 134 = .ok (.aload_n 0, 1) := by decide +kernel
theorem dX8_init_135 : decode cX8_init 135 = .ok (.bipush 60, 2) := by decide +kernel
theorem dX8_init_137 : decode cX8_init 137 = .ok (.newarray .int, 2) := by decide +kernel
theorem dX8_init_139 : decode cX8_init 139 = .ok (.putfield 60, 3) := by decide +kernel
theorem dX8_init_142 : decode cX8_init 142 = .ok (.aload_n 0, 1) := by decide +kernel
theorem dX8_init_143 : decode cX8_init 143 = .ok (.bipush 60, 2) := by decide +kernel
theorem dX8_init_145 : decode cX8_init 145 = .ok (.newarray .int, 2) := by decide +kernel
theorem dX8_init_147 : decode cX8_init 147 = .ok (.putfield 63, 3) := by decide +kernel
theorem dX8_init_150 : decode cX8_init 150 = .ok (.aload_n 0, 1) := by decide +kernel
theorem dX8_init_151 : decode cX8_init 151 = .ok (.sipush 700, 3) := by decide +kernel
theorem dX8_init_154 : decode cX8_init 154 = .ok (.newarray .int, 2) := by decide +kernel
theorem dX8_init_156 : decode cX8_init 156 = .ok (.putfield 66, 3) := by decide +kernel
theorem dX8_init_159 : decode cX8_init 159 = .ok (.aload_n 0, 1) := by decide +kernel
theorem dX8_init_160 : decode cX8_init 160 = .ok (.sipush 700, 3) := by decide +kernel
theorem dX8_init_163 : decode cX8_init 163 = .ok (.newarray .int, 2) := by decide +kernel
theorem dX8_init_165 : decode cX8_init 165 = .ok (.putfield 69, 3) := by decide +kernel
theorem dX8_init_168 : decode cX8_init 168 = .ok (.aload_n 0, 1) := by decide +kernel
theorem dX8_init_169 : decode cX8_init 169 = .ok (.sipush 700, 3) := by decide +kernel
theorem dX8_init_172 : decode cX8_init 172 = .ok (.newarray .int, 2) := by decide +kernel
theorem dX8_init_174 : decode cX8_init 174 = .ok (.putfield 72, 3) := by decide +kernel
theorem dX8_init_177 : decode cX8_init 177 = .ok (.aload_n 0, 1) := by decide +kernel
theorem dX8_init_178 : decode cX8_init 178 = .ok (.sipush 500, 3) := by decide +kernel
theorem dX8_init_181 : decode cX8_init 181 = .ok (.newarray .int, 2) := by decide +kernel
theorem dX8_init_183 : decode cX8_init 183 = .ok (.putfield 75, 3) := by decide +kernel
theorem dX8_init_186 : decode cX8_init 186 = .ok (.iconst 0, 1) := by decide +kernel
theorem dX8_init_187 : decode cX8_init 187 = .ok (.istore_n 1, 1) := by decide +kernel
theorem dX8_init_188 : decode cX8_init 188 = .ok (.iload_n 1, 1) := by decide +kernel
theorem dX8_init_189 : decode cX8_init 189 = .ok (.bipush 20, 2) := by decide +kernel
theorem dX8_init_191 : decode cX8_init 191 = .ok (.if_icmp .ge 16, 3) := by decide +kernel
theorem dX8_init_194 : decode cX8_init 194 = .ok (.aload_n 0, 1) := by decide +kernel
theorem dX8_init_195 : decode cX8_init 195 = .ok (.getfield 30, 3) := by decide +kernel
theorem dX8_init_198 : decode cX8_init 198 = .ok (.iload_n 1, 1) := by decide +kernel
theorem dX8_init_199 : decode cX8_init 199 = .ok (.iconst (-1), 1) := by decide +kernel
theorem dX8_init_200 : decode cX8_init 200 = .ok (.iastore, 1) := by decide +kernel
theorem dX8_init_201 : decode cX8_init 201 = .ok (.iinc 1 1, 3) := by decide +kernel
theorem dX8_init_204 : decode cX8_init 204 = .ok (.goto (-16), 3) := by decide +kernel
theorem dX8_init_207 : decode cX8_init 207 = .ok (.iconst 0, 1) := by decide +kernel
theorem dX8_init_208 : decode cX8_init 208 = .ok (.istore_n 1, 1) := by decide +kernel
theorem dX8_init_209 : decode cX8_init 209 = .ok (.iload_n 1, 1) := by decide +kernel
theorem dX8_init_210 : decode cX8_init 210 = .ok (.bipush 60, 2) := by decide +kernel
theorem dX8_init_212 : decode cX8_init 212 = .ok (.if_icmp .ge 23, 3) := by decide +kernel
theorem dX8_init_215 : decode cX8_init 215 = .ok (.aload_n 0, 1) := by decide +kernel
theorem dX8_init_216 : decode cX8_init 216 = .ok (.getfield 24, 3) := by decide +kernel
theorem dX8_init_219 : decode cX8_init 219 = .ok (.iload_n 1, 1) := by decide +kernel
theorem dX8_init_220 : decode cX8_init 220 = .ok (.iconst 1, 1) := by decide +kernel
theorem dX8_init_221 : decode cX8_init 221 = .ok (.iastore, 1) := by decide +kernel
theorem dX8_init_222 : decode cX8_init 222 = .ok (.aload_n 0, 1) := by decide +kernel
theorem dX8_init_223 : decode cX8_init 223 = .ok (.getfield 27, 3) := by decide +kernel
theorem dX8_init_226 : decode cX8_init 226 = .ok (.iload_n 1, 1) := by decide +kernel
theorem dX8_init_227 : decode cX8_init 227 = .ok (.iconst 1, 1) := by decide +kernel
theorem dX8_init_228 : decode cX8_init 228 = .ok (.iastore, 1) := by decide +kernel
theorem dX8_init_229 : decode cX8_init 229 = .ok (.iinc 1 1, 3) := by decide +kernel
theorem dX8_init_232 : decode cX8_init 232 = .ok (.goto (-23), 3) := by decide +kernel
theorem dX8_init_235 : decode cX8_init 235 = .ok (.return_, 1) := by decide +kernel
theorem dX8_thrown_0 : decode cX8_thrown 0 = .ok (.aload_n 0, 1) := by decide +kernel
theorem dX8_thrown_1 : decode cX8_thrown 1 = .ok (.getfield 78, 3) := by decide +kernel
theorem dX8_thrown_4 : decode cX8_thrown 4 = .ok (.ireturn, 1) := by decide +kernel
theorem dX8_in_0 : decode cX8_in 0 = .ok (.iload_n 0, 1) := by decide +kernel
theorem dX8_in_1 : decode cX8_in 1 = .ok (.iload_n 1, 1) := by decide +kernel
theorem dX8_in_2 : decode cX8_in 2 = .ok (.if_icmp .lt 12, 3) := by decide +kernel
theorem dX8_in_5 : decode cX8_in 5 = .ok (.iload_n 0, 1) := by decide +kernel
theorem dX8_in_6 : decode cX8_in 6 = .ok (.iload_n 2, 1) := by decide +kernel
theorem dX8_in_7 : decode cX8_in 7 = .ok (.if_icmp .gt 7, 3) := by decide +kernel
theorem dX8_in_10 : decode cX8_in 10 = .ok (.iconst 1, 1) := by decide +kernel
theorem dX8_in_11 : decode cX8_in 11 = .ok (.goto 4, 3) := by decide +kernel
theorem dX8_in_14 : decode cX8_in 14 = .ok (.iconst 0, 1) := by decide +kernel
theorem dX8_in_15 : decode cX8_in 15 = .ok (.ireturn, 1) := by decide +kernel
theorem dX8_isElement_0 : decode cX8_isElement 0 = .ok (.iload_n 1, 1) := by decide +kernel
theorem dX8_isElement_1 : decode cX8_isElement 1 = .ok (.ifCond .lt 15, 3) := by decide +kernel
theorem dX8_isElement_4 : decode cX8_isElement 4 = .ok (.iload_n 1, 1) := by decide +kernel
theorem dX8_isElement_5 : decode cX8_isElement 5 = .ok (.aload_n 0, 1) := by decide +kernel
theorem dX8_isElement_6 : decode cX8_isElement 6 = .ok (.getfield 7, 3) := by decide +kernel
theorem dX8_isElement_9 : decode cX8_isElement 9 = .ok (.if_icmp .ge 7, 3) := by decide +kernel
theorem dX8_isElement_12 : decode cX8_isElement 12 = .ok (.iconst 1, 1) := by decide +kernel
theorem dX8_isElement_13 : decode cX8_isElement 13 = .ok (.goto 4, 3) := by decide +kernel
theorem dX8_isElement_16 : decode cX8_isElement 16 = .ok (.iconst 0, 1) := by decide +kernel
theorem dX8_isElement_17 : decode cX8_isElement 17 = .ok (.ireturn, 1) := by decide +kernel
theorem dX8_element_0 : decode cX8_element 0 = .ok (.aload_n 0, 1) := by decide +kernel
theorem dX8_element_1 : decode cX8_element 1 = .ok (.aload_n 0, 1) := by decide +kernel
theorem dX8_element_2 : decode cX8_element 2 = .ok (.iload_n 1, 1) := by decide +kernel
theorem dX8_element_3 : decode cX8_element 3 = .ok (.invokevirtual 81, 3) := by decide +kernel
theorem dX8_element_6 : decode cX8_element 6 = .ok (.ifCond .ne 7, 3) := by decide +kernel
theorem dX8_element_9 : decode cX8_element 9 = .ok (.iconst 1, 1) := by decide +kernel
theorem dX8_element_10 : decode cX8_element 10 = .ok (.goto 42, 3) := by decide +kernel
theorem dX8_element_13 : decode cX8_element 13 = .ok (.iload_n 2, 1) := by decide +kernel
theorem dX8_element_14 : decode cX8_element 14 = .ok (.iconst 1, 1) := by decide +kernel
theorem dX8_element_15 : decode cX8_element 15 = .ok (.bipush 12, 2) := by decide +kernel
theorem dX8_element_17 : decode cX8_element 17 = .ok (.invokestatic 85, 3) := by decide +kernel
theorem dX8_element_20 : decode cX8_element 20 = .ok (.ifCond .ne 18, 3) := by decide +kernel
theorem dX8_element_23 : decode cX8_element 23 = .ok (.iload_n 2, 1) := by decide +kernel
theorem dX8_element_24 : decode cX8_element 24 = .ok (.bipush 100, 2) := by decide +kernel
theorem dX8_element_26 : decode cX8_element 26 = .ok (.bipush 119, 2) := by decide +kernel
theorem dX8_element_28 : decode cX8_element 28 = .ok (.invokestatic 85, 3) := by decide +kernel
theorem dX8_element_31 : decode cX8_element 31 = .ok (.ifCond .ne 7, 3) := by decide +kernel
theorem dX8_element_34 : decode cX8_element 34 = .ok (.iconst 2, 1) := by decide +kernel
theorem dX8_element_35 : decode cX8_element 35 = .ok (.goto 17, 3) := by decide +kernel
theorem dX8_element_38 : decode cX8_element 38 = .ok (.aload_n 0, 1) := by decide +kernel
theorem dX8_element_39 : decode cX8_element 39 = .ok (.getfield 7, 3) := by decide +kernel
theorem dX8_element_42 : decode cX8_element 42 = .ok (.bipush 60, 2) := by decide +kernel
theorem dX8_element_44 : decode cX8_element 44 = .ok (.if_icmp .ne 7, 3) := by decide +kernel
theorem dX8_element_47 : decode cX8_element 47 = .ok (.iconst 3, 1) := by decide +kernel
theorem dX8_element_48 : decode cX8_element 48 = .ok (.goto 4, 3) := by decide +kernel
theorem dX8_element_51 : decode cX8_element 51 = .ok (.iconst 0, 1) := by decide +kernel
theorem dX8_element_52 : decode cX8_element 52 = .ok (.putfield 78, 3) := by decide +kernel
theorem dX8_element_55 : decode cX8_element 55 = .ok (.aload_n 0, 1) := by decide +kernel
theorem dX8_element_56 : decode cX8_element 56 = .ok (.getfield 78, 3) := by decide +kernel
theorem dX8_element_59 : decode cX8_element 59 = .ok (.ifCond .le 5, 3) := by decide +kernel
theorem dX8_element_62 : decode cX8_element 62 = .ok (.iconst 0, 1) := by decide +kernel
theorem dX8_element_63 : decode cX8_element 63 = .ok (.ireturn, 1) := by decide +kernel
theorem dX8_element_64 : decode cX8_element 64 = .ok (.aload_n 0, 1) := by decide +kernel
theorem dX8_element_65 : decode cX8_element 65 = .ok (.getfield 13, 3) := by decide +kernel
theorem dX8_element_68 : decode cX8_element 68 = .ok (.aload_n 0, 1) := by decide +kernel
theorem dX8_element_69 : decode cX8_element 69 = .ok (.getfield 7, 3) := by decide +kernel
theorem dX8_element_72 : decode cX8_element 72 = .ok (.iload_n 2, 1) := by decide +kernel
theorem dX8_element_73 : decode cX8_element 73 = .ok (.iastore, 1) := by decide +kernel
theorem dX8_element_74 : decode cX8_element 74 = .ok (.aload_n 0, 1) := by decide +kernel
theorem dX8_element_75 : decode cX8_element 75 = .ok (.getfield 33, 3) := by decide +kernel
theorem dX8_element_78 : decode cX8_element 78 = .ok (.aload_n 0, 1) := by decide +kernel
theorem dX8_element_79 : decode cX8_element 79 = .ok (.getfield 89, 3) := by decide +kernel
theorem dX8_element_82 : decode cX8_element 82 = .ok (.iload_n 1, 1) := by decide +kernel
theorem dX8_element_83 : decode cX8_element 83 = .ok (.iastore, 1) := by decide +kernel
theorem dX8_element_84 : decode cX8_element 84 = .ok (.aload_n 0, 1) := by decide +kernel
theorem dX8_element_85 : decode cX8_element 85 = .ok (.getfield 36, 3) := by decide +kernel
theorem dX8_element_88 : decode cX8_element 88 = .ok (.aload_n 0, 1) := by decide +kernel
theorem dX8_element_89 : decode cX8_element 89 = .ok (.getfield 89, 3) := by decide +kernel
theorem dX8_element_92 : decode cX8_element 92 = .ok (.aload_n 0, 1) := by decide +kernel
theorem dX8_element_93 : decode cX8_element 93 = .ok (.getfield 7, 3) := by decide +kernel
theorem dX8_element_96 : decode cX8_element 96 = .ok (.iastore, 1) := by decide +kernel
theorem dX8_element_97 : decode cX8_element 97 = .ok (.aload_n 0, 1) := by decide +kernel
theorem dX8_element_98 : decode cX8_element 98 = .ok (.dup, 1) := by decide +kernel
theorem dX8_element_99 : decode cX8_element 99 = .ok (.getfield 89, 3) := by decide +kernel
theorem dX8_element_102 : decode cX8_element 102 = .ok (.iconst 1, 1) := by decide +kernel
theorem dX8_element_103 : decode cX8_element 103 = .ok (.iadd, 1) := by decide +kernel
theorem dX8_element_104 : decode cX8_element 104 = .ok (.putfield 89, 3) := by decide +kernel
theorem dX8_element_107 : decode cX8_element 107 = .ok (.aload_n 0, 1) := by decide +kernel
theorem dX8_element_108 : decode cX8_element 108 = .ok (.dup, 1) := by decide +kernel
theorem dX8_element_109 : decode cX8_element 109 = .ok (.getfield 7, 3) := by decide +kernel
theorem dX8_element_112 : decode cX8_element 112 = .ok (.iconst 1, 1) := by decide +kernel
theorem dX8_element_113 : decode cX8_element 113 = .ok (.iadd, 1) := by decide +kernel
theorem dX8_element_114 : decode cX8_element 114 = .ok (.putfield 7, 3) := by decide +kernel
theorem dX8_element_117 : decode cX8_element 117 = .ok (.aload_n 0, 1) := by decide +kernel
theorem dX8_element_118 : decode cX8_element 118 = .ok (.getfield 7, 3) := by decide +kernel
theorem dX8_element_121 : decode cX8_element 121 = .ok (.iconst 1, 1) := by decide +kernel
theorem dX8_element_122 : decode cX8_element 122 = .ok (.isub, 1) := by decide +kernel
theorem dX8_element_123 : decode cX8_element 123 = .ok (.ireturn, 1) := by decide +kernel
theorem dX8_standardOf_0 : decode cX8_standardOf 0 = .ok (.iload_n 1, 1) := by decide +kernel
theorem dX8_standardOf_1 : decode cX8_standardOf 1 = .ok (.istore_n 2, 1) := by decide +kernel
theorem dX8_standardOf_2 : decode cX8_standardOf 2 = .ok (.iload_n 2, 1) := by decide +kernel
theorem dX8_standardOf_3 : decode cX8_standardOf 3 = .ok (.bipush 99, 2) := by decide +kernel
theorem dX8_standardOf_5 : decode cX8_standardOf 5 = .ok (.if_icmp .le 16, 3) := by decide +kernel
theorem dX8_standardOf_8 : decode cX8_standardOf 8 = .ok (.aload_n 0, 1) := by decide +kernel
theorem dX8_standardOf_9 : decode cX8_standardOf 9 = .ok (.getfield 30, 3) := by decide +kernel
theorem dX8_standardOf_12 : decode cX8_standardOf 12 = .ok (.iload_n 2, 1) := by decide +kernel
theorem dX8_standardOf_13 : decode cX8_standardOf 13 = .ok (.bipush 100, 2) := by decide +kernel
theorem dX8_standardOf_15 : decode cX8_standardOf 15 = .ok (.isub, 1) := by decide +kernel
theorem dX8_standardOf_16 : decode cX8_standardOf 16 = .ok (.iaload, 1) := by decide +kernel
theorem dX8_standardOf_17 : decode cX8_standardOf 17 = .ok (.istore_n 2, 1) := by decide +kernel
theorem dX8_standardOf_18 : decode cX8_standardOf 18 = .ok (.goto (-16), 3) := by decide +kernel
theorem dX8_standardOf_21 : decode cX8_standardOf 21 = .ok (.iload_n 2, 1) := by decide +kernel
theorem dX8_standardOf_22 : decode cX8_standardOf 22 = .ok (.ireturn, 1) := by decide +kernel
theorem dX8_leadsTo_0 : decode cX8_leadsTo 0 = .ok (.iload_n 1, 1) := by decide +kernel
theorem dX8_leadsTo_1 : decode cX8_leadsTo 1 = .ok (.istore_n 3, 1) := by decide +kernel
theorem dX8_leadsTo_2 : decode cX8_leadsTo 2 = .ok (.iconst 0, 1) := by decide +kernel
theorem dX8_leadsTo_3 : decode cX8_leadsTo 3 = .ok (.istore 4, 2) := by decide +kernel
theorem dX8_leadsTo_5 : decode cX8_leadsTo 5 = .ok (.iload_n 3, 1) := by decide +kernel
theorem dX8_leadsTo_6 : decode cX8_leadsTo 6 = .ok (.bipush 99, 2) := by decide +kernel
theorem dX8_leadsTo_8 : decode cX8_leadsTo 8 = .ok (.if_icmp .le 33, 3) := by decide +kernel
theorem dX8_leadsTo_11 : decode cX8_leadsTo 11 = .ok (.iload 4, 2) := by decide +kernel
theorem dX8_leadsTo_13 : decode cX8_leadsTo 13 = .ok (.ifCond .ne 8, 3) := by decide +kernel
theorem dX8_leadsTo_16 : decode cX8_leadsTo 16 = .ok (.iload_n 3, 1) := by decide +kernel
theorem dX8_leadsTo_17 : decode cX8_leadsTo 17 = .ok (.iload_n 2, 1) := by decide +kernel
theorem dX8_leadsTo_18 : decode cX8_leadsTo 18 = .ok (.if_icmp .ne 7, 3) := by decide +kernel
theorem dX8_leadsTo_21 : decode cX8_leadsTo 21 = .ok (.iconst 1, 1) := by decide +kernel
theorem dX8_leadsTo_22 : decode cX8_leadsTo 22 = .ok (.goto 4, 3) := by decide +kernel
theorem dX8_leadsTo_25 : decode cX8_leadsTo 25 = .ok (.iconst 0, 1) := by decide +kernel
theorem dX8_leadsTo_26 : decode cX8_leadsTo 26 = .ok (.istore 4, 2) := by decide +kernel
theorem dX8_leadsTo_28 : decode cX8_leadsTo 28 = .ok (.aload_n 0, 1) := by decide +kernel
theorem dX8_leadsTo_29 : decode cX8_leadsTo 29 = .ok (.getfield 30, 3) := by decide +kernel
theorem dX8_leadsTo_32 : decode cX8_leadsTo 32 = .ok (.iload_n 3, 1) := by decide +kernel
theorem dX8_leadsTo_33 : decode cX8_leadsTo 33 = .ok (.bipush 100, 2) := by decide +kernel
theorem dX8_leadsTo_35 : decode cX8_leadsTo 35 = .ok (.isub, 1) := by decide +kernel
theorem dX8_leadsTo_36 : decode cX8_leadsTo 36 = .ok (.iaload, 1) := by decide +kernel
theorem dX8_leadsTo_37 : decode cX8_leadsTo 37 = .ok (.istore_n 3, 1) := by decide +kernel
theorem dX8_leadsTo_38 : decode cX8_leadsTo 38 = .ok (.goto (-33), 3) := by decide +kernel
theorem dX8_leadsTo_41 : decode cX8_leadsTo 41 = .ok (.iload 4, 2) := by decide +kernel
theorem dX8_leadsTo_43 : decode cX8_leadsTo 43 = .ok (.ireturn, 1) := by decide +kernel
theorem dX8_map_0 : decode cX8_map 0 = .ok (.aload_n 0, 1) := by decide +kernel
theorem dX8_map_1 : decode cX8_map 1 = .ok (.iload_n 1, 1) := by decide +kernel
theorem dX8_map_2 : decode cX8_map 2 = .ok (.bipush 100, 2) := by decide +kernel
theorem dX8_map_4 : decode cX8_map 4 = .ok (.bipush 119, 2) := by decide +kernel
theorem dX8_map_6 : decode cX8_map 6 = .ok (.invokestatic 85, 3) := by decide +kernel
theorem dX8_map_9 : decode cX8_map 9 = .ok (.ifCond .eq 28, 3) := by decide +kernel
theorem dX8_map_12 : decode cX8_map 12 = .ok (.iload_n 2, 1) := by decide +kernel
theorem dX8_map_13 : decode cX8_map 13 = .ok (.iconst 0, 1) := by decide +kernel
theorem dX8_map_14 : decode cX8_map 14 = .ok (.bipush 12, 2) := by decide +kernel
theorem dX8_map_16 : decode cX8_map 16 = .ok (.invokestatic 85, 3) := by decide +kernel
theorem dX8_map_19 : decode cX8_map 19 = .ok (.ifCond .ne 14, 3) := by decide +kernel
theorem dX8_map_22 : decode cX8_map 22 = .ok (.iload_n 2, 1) := by decide +kernel
theorem dX8_map_23 : decode cX8_map 23 = .ok (.bipush 100, 2) := by decide +kernel
theorem dX8_map_25 : decode cX8_map 25 = .ok (.bipush 119, 2) := by decide +kernel
theorem dX8_map_27 : decode cX8_map 27 = .ok (.invokestatic 85, 3) := by decide +kernel
theorem dX8_map_30 : decode cX8_map 30 = .ok (.ifCond .eq 7, 3) := by decide +kernel
theorem dX8_map_33 : decode cX8_map 33 = .ok (.iconst 0, 1) := by decide +kernel
theorem dX8_map_34 : decode cX8_map 34 = .ok (.goto 4, 3) := by decide +kernel
theorem dX8_map_37 : decode cX8_map 37 = .ok (.iconst 1, 1) := by decide +kernel
theorem dX8_map_38 : decode cX8_map 38 = .ok (.putfield 78, 3) := by decide +kernel
theorem dX8_map_41 : decode cX8_map 41 = .ok (.aload_n 0, 1) := by decide +kernel
theorem dX8_map_42 : decode cX8_map 42 = .ok (.getfield 78, 3) := by decide +kernel
theorem dX8_map_45 : decode cX8_map 45 = .ok (.ifCond .gt 12, 3) := by decide +kernel
theorem dX8_map_48 : decode cX8_map 48 = .ok (.aload_n 0, 1) := by decide +kernel
theorem dX8_map_49 : decode cX8_map 49 = .ok (.iload_n 2, 1) := by decide +kernel
theorem dX8_map_50 : decode cX8_map 50 = .ok (.iload_n 1, 1) := by decide +kernel
theorem dX8_map_51 : decode cX8_map 51 = .ok (.invokevirtual 92, 3) := by decide +kernel
theorem dX8_map_54 : decode cX8_map 54 = .ok (.ifCond .eq 5, 3) := by decide +kernel
theorem dX8_map_57 : decode cX8_map 57 = .ok (.iconst 0, 1) := by decide +kernel
theorem dX8_map_58 : decode cX8_map 58 = .ok (.ireturn, 1) := by decide +kernel
theorem dX8_map_59 : decode cX8_map 59 = .ok (.aload_n 0, 1) := by decide +kernel
theorem dX8_map_60 : decode cX8_map 60 = .ok (.getfield 30, 3) := by decide +kernel
theorem dX8_map_63 : decode cX8_map 63 = .ok (.iload_n 1, 1) := by decide +kernel
theorem dX8_map_64 : decode cX8_map 64 = .ok (.bipush 100, 2) := by decide +kernel
theorem dX8_map_66 : decode cX8_map 66 = .ok (.isub, 1) := by decide +kernel
theorem dX8_map_67 : decode cX8_map 67 = .ok (.iload_n 2, 1) := by decide +kernel
theorem dX8_map_68 : decode cX8_map 68 = .ok (.iastore, 1) := by decide +kernel
theorem dX8_map_69 : decode cX8_map 69 = .ok (.iconst 1, 1) := by decide +kernel
theorem dX8_map_70 : decode cX8_map 70 = .ok (.ireturn, 1) := by decide +kernel
theorem dX8_ownerOf_0 : decode cX8_ownerOf 0 = .ok (.iconst (-1), 1) := by decide +kernel
theorem dX8_ownerOf_1 : decode cX8_ownerOf 1 = .ok (.istore_n 2, 1) := by decide +kernel
theorem dX8_ownerOf_2 : decode cX8_ownerOf 2 = .ok (.iconst 0, 1) := by decide +kernel
theorem dX8_ownerOf_3 : decode cX8_ownerOf 3 = .ok (.istore_n 3, 1) := by decide +kernel
theorem dX8_ownerOf_4 : decode cX8_ownerOf 4 = .ok (.iload_n 3, 1) := by decide +kernel
theorem dX8_ownerOf_5 : decode cX8_ownerOf 5 = .ok (.aload_n 0, 1) := by decide +kernel
theorem dX8_ownerOf_6 : decode cX8_ownerOf 6 = .ok (.getfield 89, 3) := by decide +kernel
theorem dX8_ownerOf_9 : decode cX8_ownerOf 9 = .ok (.if_icmp .ge 34, 3) := by decide +kernel
theorem dX8_ownerOf_12 : decode cX8_ownerOf 12 = .ok (.aload_n 0, 1) := by decide +kernel
theorem dX8_ownerOf_13 : decode cX8_ownerOf 13 = .ok (.getfield 36, 3) := by decide +kernel
theorem dX8_ownerOf_16 : decode cX8_ownerOf 16 = .ok (.iload_n 3, 1) := by decide +kernel
theorem dX8_ownerOf_17 : decode cX8_ownerOf 17 = .ok (.iaload, 1) := by decide +kernel
theorem dX8_ownerOf_18 : decode cX8_ownerOf 18 = .ok (.sipush 1000, 3) := by decide +kernel
theorem dX8_ownerOf_21 : decode cX8_ownerOf 21 = .ok (.iload_n 1, 1) := by decide +kernel
theorem dX8_ownerOf_22 : decode cX8_ownerOf 22 = .ok (.iadd, 1) := by decide +kernel
theorem dX8_ownerOf_23 : decode cX8_ownerOf 23 = .ok (.if_icmp .ne 12, 3) := by decide +kernel
theorem dX8_ownerOf_26 : decode cX8_ownerOf 26 = .ok (.aload_n 0, 1) := by decide +kernel
theorem dX8_ownerOf_27 : decode cX8_ownerOf 27 = .ok (.getfield 33, 3) := by decide +kernel
theorem dX8_ownerOf_30 : decode cX8_ownerOf 30 = .ok (.iload_n 3, 1) := by decide +kernel
theorem dX8_ownerOf_31 : decode cX8_ownerOf 31 = .ok (.iaload, 1) := by decide +kernel
theorem dX8_ownerOf_32 : decode cX8_ownerOf 32 = .ok (.goto 4, 3) := by decide +kernel
theorem dX8_ownerOf_35 : decode cX8_ownerOf 35 = .ok (.iload_n 2, 1) := by decide +kernel
theorem dX8_ownerOf_36 : decode cX8_ownerOf 36 = .ok (.istore_n 2, 1) := by decide +kernel
theorem dX8_ownerOf_37 : decode cX8_ownerOf 37 = .ok (.iinc 3 1, 3) := by decide +kernel
theorem dX8_ownerOf_40 : decode cX8_ownerOf 40 = .ok (.goto (-36), 3) := by decide +kernel
theorem dX8_ownerOf_43 : decode cX8_ownerOf 43 = .ok (.iload_n 2, 1) := by decide +kernel
theorem dX8_ownerOf_44 : decode cX8_ownerOf 44 = .ok (.ireturn, 1) := by decide +kernel
theorem dX8_isPart_0 : decode cX8_isPart 0 = .ok (.iload_n 0, 1) := by decide +kernel
theorem dX8_isPart_1 : decode cX8_isPart 1 = .ok (.iconst 0, 1) := by decide +kernel
theorem dX8_isPart_2 : decode cX8_isPart 2 = .ok (.bipush 9, 2) := by decide +kernel
theorem dX8_isPart_4 : decode cX8_isPart 4 = .ok (.invokestatic 85, 3) := by decide +kernel
theorem dX8_isPart_7 : decode cX8_isPart 7 = .ok (.ifCond .eq 17, 3) := by decide +kernel
theorem dX8_isPart_10 : decode cX8_isPart 10 = .ok (.iload_n 1, 1) := by decide +kernel
theorem dX8_isPart_11 : decode cX8_isPart 11 = .ok (.iconst 0, 1) := by decide +kernel
theorem dX8_isPart_12 : decode cX8_isPart 12 = .ok (.bipush 19, 2) := by decide +kernel
theorem dX8_isPart_14 : decode cX8_isPart 14 = .ok (.invokestatic 85, 3) := by decide +kernel
theorem dX8_isPart_17 : decode cX8_isPart 17 = .ok (.ifCond .eq 7, 3) := by decide +kernel
theorem dX8_isPart_20 : decode cX8_isPart 20 = .ok (.iconst 1, 1) := by decide +kernel
theorem dX8_isPart_21 : decode cX8_isPart 21 = .ok (.goto 4, 3) := by decide +kernel
theorem dX8_isPart_24 : decode cX8_isPart 24 = .ok (.iconst 0, 1) := by decide +kernel
theorem dX8_isPart_25 : decode cX8_isPart 25 = .ok (.ireturn, 1) := by decide +kernel
theorem dX8_content_0 : decode cX8_content 0 = .ok (.aload_n 0, 1) := by decide +kernel
theorem dX8_content_1 : decode cX8_content 1 = .ok (.aload_n 0, 1) := by decide +kernel
theorem dX8_content_2 : decode cX8_content 2 = .ok (.iload_n 1, 1) := by decide +kernel
theorem dX8_content_3 : decode cX8_content 3 = .ok (.invokevirtual 81, 3) := by decide +kernel
theorem dX8_content_6 : decode cX8_content 6 = .ok (.ifCond .ne 7, 3) := by decide +kernel
theorem dX8_content_9 : decode cX8_content 9 = .ok (.iconst 1, 1) := by decide +kernel
theorem dX8_content_10 : decode cX8_content 10 = .ok (.goto 16, 3) := by decide +kernel
theorem dX8_content_13 : decode cX8_content 13 = .ok (.iload_n 2, 1) := by decide +kernel
theorem dX8_content_14 : decode cX8_content 14 = .ok (.iload_n 3, 1) := by decide +kernel
theorem dX8_content_15 : decode cX8_content 15 = .ok (.invokestatic 96, 3) := by decide +kernel
theorem dX8_content_18 : decode cX8_content 18 = .ok (.ifCond .ne 7, 3) := by decide +kernel
theorem dX8_content_21 : decode cX8_content 21 = .ok (.iconst 2, 1) := by decide +kernel
theorem dX8_content_22 : decode cX8_content 22 = .ok (.goto 4, 3) := by decide +kernel
theorem dX8_content_25 : decode cX8_content 25 = .ok (.iconst 0, 1) := by decide +kernel
theorem dX8_content_26 : decode cX8_content 26 = .ok (.putfield 78, 3) := by decide +kernel
theorem dX8_content_29 : decode cX8_content 29 = .ok (.aload_n 0, 1) := by decide +kernel
theorem dX8_content_30 : decode cX8_content 30 = .ok (.getfield 78, 3) := by decide +kernel
theorem dX8_content_33 : decode cX8_content 33 = .ok (.ifCond .le 5, 3) := by decide +kernel
theorem dX8_content_36 : decode cX8_content 36 = .ok (.iconst 0, 1) := by decide +kernel
theorem dX8_content_37 : decode cX8_content 37 = .ok (.ireturn, 1) := by decide +kernel
theorem dX8_content_38 : decode cX8_content 38 = .ok (.bipush 20, 2) := by decide +kernel
theorem dX8_content_40 : decode cX8_content 40 = .ok (.iload_n 2, 1) := by decide +kernel
theorem dX8_content_41 : decode cX8_content 41 = .ok (.imul, 1) := by decide +kernel
theorem dX8_content_42 : decode cX8_content 42 = .ok (.iload_n 3, 1) := by decide +kernel
theorem dX8_content_43 : decode cX8_content 43 = .ok (.iadd, 1) := by decide +kernel
theorem dX8_content_44 : decode cX8_content 44 = .ok (.istore 4, 2) := by decide +kernel
theorem dX8_content_46 : decode cX8_content 46 = .ok (.aload_n 0, 1) := by decide +kernel
theorem dX8_content_47 : decode cX8_content 47 = .ok (.iload 4, 2) := by decide +kernel
theorem dX8_content_49 : decode cX8_content 49 = .ok (.invokevirtual 99, 3) := by decide +kernel
theorem dX8_content_52 : decode cX8_content 52 = .ok (.iconst (-1), 1) := by decide +kernel
theorem dX8_content_53 : decode cX8_content 53 = .ok (.if_icmp .eq 45, 3) := by decide +kernel
theorem dX8_content_56 : decode cX8_content 56 = .ok (.aload_n 0, 1) := by decide +kernel
theorem dX8_content_57 : decode cX8_content 57 = .ok (.getfield 103, 3) := by decide +kernel
theorem dX8_content_60 : decode cX8_content 60 = .ok (.bipush 40, 2) := by decide +kernel
theorem dX8_content_62 : decode cX8_content 62 = .ok (.if_icmp .ge 34, 3) := by decide +kernel
theorem dX8_content_65 : decode cX8_content 65 = .ok (.aload_n 0, 1) := by decide +kernel
theorem dX8_content_66 : decode cX8_content 66 = .ok (.getfield 39, 3) := by decide +kernel
theorem dX8_content_69 : decode cX8_content 69 = .ok (.aload_n 0, 1) := by decide +kernel
theorem dX8_content_70 : decode cX8_content 70 = .ok (.getfield 103, 3) := by decide +kernel
theorem dX8_content_73 : decode cX8_content 73 = .ok (.iload 4, 2) := by decide +kernel
theorem dX8_content_75 : decode cX8_content 75 = .ok (.iastore, 1) := by decide +kernel
theorem dX8_content_76 : decode cX8_content 76 = .ok (.aload_n 0, 1) := by decide +kernel
theorem dX8_content_77 : decode cX8_content 77 = .ok (.getfield 42, 3) := by decide +kernel
theorem dX8_content_80 : decode cX8_content 80 = .ok (.aload_n 0, 1) := by decide +kernel
theorem dX8_content_81 : decode cX8_content 81 = .ok (.getfield 103, 3) := by decide +kernel
theorem dX8_content_84 : decode cX8_content 84 = .ok (.iload_n 1, 1) := by decide +kernel
theorem dX8_content_85 : decode cX8_content 85 = .ok (.iastore, 1) := by decide +kernel
theorem dX8_content_86 : decode cX8_content 86 = .ok (.aload_n 0, 1) := by decide +kernel
theorem dX8_content_87 : decode cX8_content 87 = .ok (.dup, 1) := by decide +kernel
theorem dX8_content_88 : decode cX8_content 88 = .ok (.getfield 103, 3) := by decide +kernel
theorem dX8_content_91 : decode cX8_content 91 = .ok (.iconst 1, 1) := by decide +kernel
theorem dX8_content_92 : decode cX8_content 92 = .ok (.iadd, 1) := by decide +kernel
theorem dX8_content_93 : decode cX8_content 93 = .ok (.putfield 103, 3) := by decide +kernel
theorem dX8_content_96 : decode cX8_content 96 = .ok (.iconst 0, 1) := by decide +kernel
theorem dX8_content_97 : decode cX8_content 97 = .ok (.ireturn, 1) := by decide +kernel
theorem dX8_content_98 : decode cX8_content 98 = .ok (.aload_n 0, 1) := by decide +kernel
theorem dX8_content_99 : decode cX8_content 99 = .ok (.aload_n 0, 1) := by decide +kernel
theorem dX8_content_100 : decode cX8_content 100 = .ok (.getfield 106, 3) := by decide +kernel
theorem dX8_content_103 : decode cX8_content 103 = .ok (.bipush 100, 2) := by decide +kernel
theorem dX8_content_105 : decode cX8_content 105 = .ok (.if_icmp .ne 7, 3) := by decide +kernel
theorem dX8_content_108 : decode cX8_content 108 = .ok (.iconst 3, 1) := by decide +kernel
theorem dX8_content_109 : decode cX8_content 109 = .ok (.goto 4, 3) := by decide +kernel
theorem dX8_content_112 : decode cX8_content 112 = .ok (.iconst 0, 1) := by decide +kernel
theorem dX8_content_113 : decode cX8_content 113 = .ok (.putfield 78, 3) := by decide +kernel
theorem dX8_content_116 : decode cX8_content 116 = .ok (.aload_n 0, 1) := by decide +kernel
theorem dX8_content_117 : decode cX8_content 117 = .ok (.getfield 78, 3) := by decide +kernel
theorem dX8_content_120 : decode cX8_content 120 = .ok (.ifCond .le 5, 3) := by decide +kernel
theorem dX8_content_123 : decode cX8_content 123 = .ok (.iconst 0, 1) := by decide +kernel
theorem dX8_content_124 : decode cX8_content 124 = .ok (.ireturn, 1) := by decide +kernel
theorem dX8_content_125 : decode cX8_content 125 = .ok (.aload_n 0, 1) := by decide +kernel
theorem dX8_content_126 : decode cX8_content 126 = .ok (.dup, 1) := by decide +kernel
theorem dX8_content_127 : decode cX8_content 127 = .ok (.getfield 106, 3) := by decide +kernel
theorem dX8_content_130 : decode cX8_content 130 = .ok (.iconst 1, 1) := by decide +kernel
theorem dX8_content_131 : decode cX8_content 131 = .ok (.iadd, 1) := by decide +kernel
theorem dX8_content_132 : decode cX8_content 132 = .ok (.putfield 106, 3) := by decide +kernel
theorem dX8_content_135 : decode cX8_content 135 = .ok (.aload_n 0, 1) := by decide +kernel
theorem dX8_content_136 : decode cX8_content 136 = .ok (.getfield 33, 3) := by decide +kernel
theorem dX8_content_139 : decode cX8_content 139 = .ok (.aload_n 0, 1) := by decide +kernel
theorem dX8_content_140 : decode cX8_content 140 = .ok (.getfield 89, 3) := by decide +kernel
theorem dX8_content_143 : decode cX8_content 143 = .ok (.iload_n 1, 1) := by decide +kernel
theorem dX8_content_144 : decode cX8_content 144 = .ok (.iastore, 1) := by decide +kernel
theorem dX8_content_145 : decode cX8_content 145 = .ok (.aload_n 0, 1) := by decide +kernel
theorem dX8_content_146 : decode cX8_content 146 = .ok (.getfield 36, 3) := by decide +kernel
theorem dX8_content_149 : decode cX8_content 149 = .ok (.aload_n 0, 1) := by decide +kernel
theorem dX8_content_150 : decode cX8_content 150 = .ok (.getfield 89, 3) := by decide +kernel
theorem dX8_content_153 : decode cX8_content 153 = .ok (.sipush 1000, 3) := by decide +kernel
theorem dX8_content_156 : decode cX8_content 156 = .ok (.iload 4, 2) := by decide +kernel
theorem dX8_content_158 : decode cX8_content 158 = .ok (.iadd, 1) := by decide +kernel
theorem dX8_content_159 : decode cX8_content 159 = .ok (.iastore, 1) := by decide +kernel
theorem dX8_content_160 : decode cX8_content 160 = .ok (.aload_n 0, 1) := by decide +kernel
theorem dX8_content_161 : decode cX8_content 161 = .ok (.dup, 1) := by decide +kernel
theorem dX8_content_162 : decode cX8_content 162 = .ok (.getfield 89, 3) := by decide +kernel
theorem dX8_content_165 : decode cX8_content 165 = .ok (.iconst 1, 1) := by decide +kernel
theorem dX8_content_166 : decode cX8_content 166 = .ok (.iadd, 1) := by decide +kernel
theorem dX8_content_167 : decode cX8_content 167 = .ok (.putfield 89, 3) := by decide +kernel
theorem dX8_content_170 : decode cX8_content 170 = .ok (.iconst 1, 1) := by decide +kernel
theorem dX8_content_171 : decode cX8_content 171 = .ok (.ireturn, 1) := by decide +kernel
theorem dX8_placeOf_0 : decode cX8_placeOf 0 = .ok (.iconst 0, 1) := by decide +kernel
theorem dX8_placeOf_1 : decode cX8_placeOf 1 = .ok (.istore_n 2, 1) := by decide +kernel
theorem dX8_placeOf_2 : decode cX8_placeOf 2 = .ok (.iconst 0, 1) := by decide +kernel
theorem dX8_placeOf_3 : decode cX8_placeOf 3 = .ok (.istore_n 3, 1) := by decide +kernel
theorem dX8_placeOf_4 : decode cX8_placeOf 4 = .ok (.iconst 0, 1) := by decide +kernel
theorem dX8_placeOf_5 : decode cX8_placeOf 5 = .ok (.istore 4, 2) := by decide +kernel
theorem dX8_placeOf_7 : decode cX8_placeOf 7 = .ok (.iload 4, 2) := by decide +kernel
theorem dX8_placeOf_9 : decode cX8_placeOf 9 = .ok (.aload_n 0, 1) := by decide +kernel
theorem dX8_placeOf_10 : decode cX8_placeOf 10 = .ok (.getfield 109, 3) := by decide +kernel
theorem dX8_placeOf_13 : decode cX8_placeOf 13 = .ok (.if_icmp .ge 51, 3) := by decide +kernel
theorem dX8_placeOf_16 : decode cX8_placeOf 16 = .ok (.aload_n 0, 1) := by decide +kernel
theorem dX8_placeOf_17 : decode cX8_placeOf 17 = .ok (.getfield 45, 3) := by decide +kernel
theorem dX8_placeOf_20 : decode cX8_placeOf 20 = .ok (.iload 4, 2) := by decide +kernel
theorem dX8_placeOf_22 : decode cX8_placeOf 22 = .ok (.iaload, 1) := by decide +kernel
theorem dX8_placeOf_23 : decode cX8_placeOf 23 = .ok (.bipush 20, 2) := by decide +kernel
theorem dX8_placeOf_25 : decode cX8_placeOf 25 = .ok (.idiv, 1) := by decide +kernel
theorem dX8_placeOf_26 : decode cX8_placeOf 26 = .ok (.iload_n 1, 1) := by decide +kernel
theorem dX8_placeOf_27 : decode cX8_placeOf 27 = .ok (.bipush 20, 2) := by decide +kernel
theorem dX8_placeOf_29 : decode cX8_placeOf 29 = .ok (.idiv, 1) := by decide +kernel
theorem dX8_placeOf_30 : decode cX8_placeOf 30 = .ok (.if_icmp .ne 9, 3) := by decide +kernel
theorem dX8_placeOf_33 : decode cX8_placeOf 33 = .ok (.iload_n 2, 1) := by decide +kernel
theorem dX8_placeOf_34 : decode cX8_placeOf 34 = .ok (.iconst 1, 1) := by decide +kernel
theorem dX8_placeOf_35 : decode cX8_placeOf 35 = .ok (.iadd, 1) := by decide +kernel
theorem dX8_placeOf_36 : decode cX8_placeOf 36 = .ok (.goto 4, 3) := by decide +kernel
theorem dX8_placeOf_39 : decode cX8_placeOf 39 = .ok (.iload_n 2, 1) := by decide +kernel
theorem dX8_placeOf_40 : decode cX8_placeOf 40 = .ok (.istore_n 2, 1) := by decide +kernel
theorem dX8_placeOf_41 : decode cX8_placeOf 41 = .ok (.aload_n 0, 1) := by decide +kernel
theorem dX8_placeOf_42 : decode cX8_placeOf 42 = .ok (.getfield 45, 3) := by decide +kernel
theorem dX8_placeOf_45 : decode cX8_placeOf 45 = .ok (.iload 4, 2) := by decide +kernel
theorem dX8_placeOf_47 : decode cX8_placeOf 47 = .ok (.iaload, 1) := by decide +kernel
theorem dX8_placeOf_48 : decode cX8_placeOf 48 = .ok (.iload_n 1, 1) := by decide +kernel
theorem dX8_placeOf_49 : decode cX8_placeOf 49 = .ok (.if_icmp .ne 7, 3) := by decide +kernel
theorem dX8_placeOf_52 : decode cX8_placeOf 52 = .ok (.iload_n 2, 1) := by decide +kernel
theorem dX8_placeOf_53 : decode cX8_placeOf 53 = .ok (.goto 4, 3) := by decide +kernel
theorem dX8_placeOf_56 : decode cX8_placeOf 56 = .ok (.iload_n 3, 1) := by decide +kernel
theorem dX8_placeOf_57 : decode cX8_placeOf 57 = .ok (.istore_n 3, 1) := by decide +kernel
theorem dX8_placeOf_58 : decode cX8_placeOf 58 = .ok (.iinc 4 1, 3) := by decide +kernel
theorem dX8_placeOf_61 : decode cX8_placeOf 61 = .ok (.goto (-54), 3) := by decide +kernel
theorem dX8_placeOf_64 : decode cX8_placeOf 64 = .ok (.iload_n 3, 1) := by decide +kernel
theorem dX8_placeOf_65 : decode cX8_placeOf 65 = .ok (.ireturn, 1) := by decide +kernel
theorem dX8_shows_0 : decode cX8_shows 0 = .ok (.aload_n 0, 1) := by decide +kernel
theorem dX8_shows_1 : decode cX8_shows 1 = .ok (.iload_n 1, 1) := by decide +kernel
theorem dX8_shows_2 : decode cX8_shows 2 = .ok (.iload_n 2, 1) := by decide +kernel
theorem dX8_shows_3 : decode cX8_shows 3 = .ok (.invokestatic 96, 3) := by decide +kernel
theorem dX8_shows_6 : decode cX8_shows 6 = .ok (.ifCond .eq 7, 3) := by decide +kernel
theorem dX8_shows_9 : decode cX8_shows 9 = .ok (.iconst 0, 1) := by decide +kernel
theorem dX8_shows_10 : decode cX8_shows 10 = .ok (.goto 4, 3) := by decide +kernel
theorem dX8_shows_13 : decode cX8_shows 13 = .ok (.iconst 1, 1) := by decide +kernel
theorem dX8_shows_14 : decode cX8_shows 14 = .ok (.putfield 78, 3) := by decide +kernel
theorem dX8_shows_17 : decode cX8_shows 17 = .ok (.bipush 20, 2) := by decide +kernel
theorem dX8_shows_19 : decode cX8_shows 19 = .ok (.iload_n 1, 1) := by decide +kernel
theorem dX8_shows_20 : decode cX8_shows 20 = .ok (.imul, 1) := by decide +kernel
theorem dX8_shows_21 : decode cX8_shows 21 = .ok (.iload_n 2, 1) := by decide +kernel
theorem dX8_shows_22 : decode cX8_shows 22 = .ok (.iadd, 1) := by decide +kernel
theorem dX8_shows_23 : decode cX8_shows 23 = .ok (.istore_n 3, 1) := by decide +kernel
theorem dX8_shows_24 : decode cX8_shows 24 = .ok (.aload_n 0, 1) := by decide +kernel
theorem dX8_shows_25 : decode cX8_shows 25 = .ok (.getfield 78, 3) := by decide +kernel
theorem dX8_shows_28 : decode cX8_shows 28 = .ok (.ifCond .gt 11, 3) := by decide +kernel
theorem dX8_shows_31 : decode cX8_shows 31 = .ok (.aload_n 0, 1) := by decide +kernel
theorem dX8_shows_32 : decode cX8_shows 32 = .ok (.iload_n 3, 1) := by decide +kernel
theorem dX8_shows_33 : decode cX8_shows 33 = .ok (.invokevirtual 112, 3) := by decide +kernel
theorem dX8_shows_36 : decode cX8_shows 36 = .ok (.ifCond .le 5, 3) := by decide +kernel
theorem dX8_shows_39 : decode cX8_shows 39 = .ok (.iconst 0, 1) := by decide +kernel
theorem dX8_shows_40 : decode cX8_shows 40 = .ok (.ireturn, 1) := by decide +kernel
theorem dX8_shows_41 : decode cX8_shows 41 = .ok (.aload_n 0, 1) := by decide +kernel
theorem dX8_shows_42 : decode cX8_shows 42 = .ok (.getfield 45, 3) := by decide +kernel
theorem dX8_shows_45 : decode cX8_shows 45 = .ok (.aload_n 0, 1) := by decide +kernel
theorem dX8_shows_46 : decode cX8_shows 46 = .ok (.getfield 109, 3) := by decide +kernel
theorem dX8_shows_49 : decode cX8_shows 49 = .ok (.iload_n 3, 1) := by decide +kernel
theorem dX8_shows_50 : decode cX8_shows 50 = .ok (.iastore, 1) := by decide +kernel
theorem dX8_shows_51 : decode cX8_shows 51 = .ok (.aload_n 0, 1) := by decide +kernel
theorem dX8_shows_52 : decode cX8_shows 52 = .ok (.dup, 1) := by decide +kernel
theorem dX8_shows_53 : decode cX8_shows 53 = .ok (.getfield 109, 3) := by decide +kernel
theorem dX8_shows_56 : decode cX8_shows 56 = .ok (.iconst 1, 1) := by decide +kernel
theorem dX8_shows_57 : decode cX8_shows 57 = .ok (.iadd, 1) := by decide +kernel
theorem dX8_shows_58 : decode cX8_shows 58 = .ok (.putfield 109, 3) := by decide +kernel
theorem dX8_shows_61 : decode cX8_shows 61 = .ok (.aload_n 0, 1) := by decide +kernel
theorem dX8_shows_62 : decode cX8_shows 62 = .ok (.iload_n 3, 1) := by decide +kernel
theorem dX8_shows_63 : decode cX8_shows 63 = .ok (.invokevirtual 112, 3) := by decide +kernel
theorem dX8_shows_66 : decode cX8_shows 66 = .ok (.ireturn, 1) := by decide +kernel
theorem dX8_is_0 : decode cX8_is 0 = .ok (.aload_n 0, 1) := by decide +kernel
theorem dX8_is_1 : decode cX8_is 1 = .ok (.aload_n 0, 1) := by decide +kernel
theorem dX8_is_2 : decode cX8_is 2 = .ok (.getfield 13, 3) := by decide +kernel
theorem dX8_is_5 : decode cX8_is 5 = .ok (.iload_n 1, 1) := by decide +kernel
theorem dX8_is_6 : decode cX8_is 6 = .ok (.iaload, 1) := by decide +kernel
theorem dX8_is_7 : decode cX8_is 7 = .ok (.invokevirtual 115, 3) := by decide +kernel
theorem dX8_is_10 : decode cX8_is 10 = .ok (.iload_n 2, 1) := by decide +kernel
theorem dX8_is_11 : decode cX8_is 11 = .ok (.if_icmp .ne 7, 3) := by decide +kernel
theorem dX8_is_14 : decode cX8_is 14 = .ok (.iconst 1, 1) := by decide +kernel
theorem dX8_is_15 : decode cX8_is 15 = .ok (.goto 4, 3) := by decide +kernel
theorem dX8_is_18 : decode cX8_is 18 = .ok (.iconst 0, 1) := by decide +kernel
theorem dX8_is_19 : decode cX8_is 19 = .ok (.ireturn, 1) := by decide +kernel
theorem dX8_nextKid_0 : decode cX8_nextKid 0 = .ok (.iload_n 2, 1) := by decide +kernel
theorem dX8_nextKid_1 : decode cX8_nextKid 1 = .ok (.istore_n 3, 1) := by decide +kernel
theorem dX8_nextKid_2 : decode cX8_nextKid 2 = .ok (.iload_n 3, 1) := by decide +kernel
theorem dX8_nextKid_3 : decode cX8_nextKid 3 = .ok (.aload_n 0, 1) := by decide +kernel
theorem dX8_nextKid_4 : decode cX8_nextKid 4 = .ok (.getfield 89, 3) := by decide +kernel
theorem dX8_nextKid_7 : decode cX8_nextKid 7 = .ok (.if_icmp .ge 19, 3) := by decide +kernel
theorem dX8_nextKid_10 : decode cX8_nextKid 10 = .ok (.aload_n 0, 1) := by decide +kernel
theorem dX8_nextKid_11 : decode cX8_nextKid 11 = .ok (.getfield 33, 3) := by decide +kernel
theorem dX8_nextKid_14 : decode cX8_nextKid 14 = .ok (.iload_n 3, 1) := by decide +kernel
theorem dX8_nextKid_15 : decode cX8_nextKid 15 = .ok (.iaload, 1) := by decide +kernel
theorem dX8_nextKid_16 : decode cX8_nextKid 16 = .ok (.iload_n 1, 1) := by decide +kernel
theorem dX8_nextKid_17 : decode cX8_nextKid 17 = .ok (.if_icmp .eq 9, 3) := by decide +kernel
theorem dX8_nextKid_20 : decode cX8_nextKid 20 = .ok (.iinc 3 1, 3) := by decide +kernel
theorem dX8_nextKid_23 : decode cX8_nextKid 23 = .ok (.goto (-21), 3) := by decide +kernel
theorem dX8_nextKid_26 : decode cX8_nextKid 26 = .ok (.iload_n 3, 1) := by decide +kernel
theorem dX8_nextKid_27 : decode cX8_nextKid 27 = .ok (.ireturn, 1) := by decide +kernel
theorem dX8_meet_0 : decode cX8_meet 0 = .ok (.aload_n 0, 1) := by decide +kernel
theorem dX8_meet_1 : decode cX8_meet 1 = .ok (.getfield 48, 3) := by decide +kernel
theorem dX8_meet_4 : decode cX8_meet 4 = .ok (.aload_n 0, 1) := by decide +kernel
theorem dX8_meet_5 : decode cX8_meet 5 = .ok (.getfield 118, 3) := by decide +kernel
theorem dX8_meet_8 : decode cX8_meet 8 = .ok (.iload_n 1, 1) := by decide +kernel
theorem dX8_meet_9 : decode cX8_meet 9 = .ok (.iastore, 1) := by decide +kernel
theorem dX8_meet_10 : decode cX8_meet 10 = .ok (.aload_n 0, 1) := by decide +kernel
theorem dX8_meet_11 : decode cX8_meet 11 = .ok (.getfield 51, 3) := by decide +kernel
theorem dX8_meet_14 : decode cX8_meet 14 = .ok (.aload_n 0, 1) := by decide +kernel
theorem dX8_meet_15 : decode cX8_meet 15 = .ok (.getfield 118, 3) := by decide +kernel
theorem dX8_meet_18 : decode cX8_meet 18 = .ok (.iload_n 2, 1) := by decide +kernel
theorem dX8_meet_19 : decode cX8_meet 19 = .ok (.iastore, 1) := by decide +kernel
theorem dX8_meet_20 : decode cX8_meet 20 = .ok (.aload_n 0, 1) := by decide +kernel
theorem dX8_meet_21 : decode cX8_meet 21 = .ok (.dup, 1) := by decide +kernel
theorem dX8_meet_22 : decode cX8_meet 22 = .ok (.getfield 118, 3) := by decide +kernel
theorem dX8_meet_25 : decode cX8_meet 25 = .ok (.iconst 1, 1) := by decide +kernel
theorem dX8_meet_26 : decode cX8_meet 26 = .ok (.iadd, 1) := by decide +kernel
theorem dX8_meet_27 : decode cX8_meet 27 = .ok (.putfield 118, 3) := by decide +kernel
theorem dX8_meet_30 : decode cX8_meet 30 = .ok (.return_, 1) := by decide +kernel
theorem dX8_go_0 : decode cX8_go 0 = .ok (.aload_n 0, 1) := by decide +kernel
theorem dX8_go_1 : decode cX8_go 1 = .ok (.iconst 0, 1) := by decide +kernel
theorem dX8_go_2 : decode cX8_go 2 = .ok (.putfield 118, 3) := by decide +kernel
theorem dX8_go_5 : decode cX8_go 5 = .ok (.iconst 0, 1) := by decide +kernel
theorem dX8_go_6 : decode cX8_go 6 = .ok (.istore_n 1, 1) := by decide +kernel
theorem dX8_go_7 : decode cX8_go 7 = .ok (.aload_n 0, 1) := by decide +kernel
theorem dX8_go_8 : decode cX8_go 8 = .ok (.getfield 54, 3) := by decide +kernel
theorem dX8_go_11 : decode cX8_go 11 = .ok (.iconst 0, 1) := by decide +kernel
theorem dX8_go_12 : decode cX8_go 12 = .ok (.iconst 0, 1) := by decide +kernel
theorem dX8_go_13 : decode cX8_go 13 = .ok (.iastore, 1) := by decide +kernel
theorem dX8_go_14 : decode cX8_go 14 = .ok (.aload_n 0, 1) := by decide +kernel
theorem dX8_go_15 : decode cX8_go 15 = .ok (.getfield 57, 3) := by decide +kernel
theorem dX8_go_18 : decode cX8_go 18 = .ok (.iconst 0, 1) := by decide +kernel
theorem dX8_go_19 : decode cX8_go 19 = .ok (.iconst 0, 1) := by decide +kernel
theorem dX8_go_20 : decode cX8_go 20 = .ok (.iastore, 1) := by decide +kernel
theorem dX8_go_21 : decode cX8_go 21 = .ok (.aload_n 0, 1) := by decide +kernel
theorem dX8_go_22 : decode cX8_go 22 = .ok (.iconst 0, 1) := by decide +kernel
theorem dX8_go_23 : decode cX8_go 23 = .ok (.iconst 0, 1) := by decide +kernel
theorem dX8_go_24 : decode cX8_go 24 = .ok (.invokevirtual 121, 3) := by decide +kernel
theorem dX8_go_27 : decode cX8_go 27 = .ok (.iload_n 1, 1) := by decide +kernel
theorem dX8_go_28 : decode cX8_go 28 = .ok (.ifCond .lt 122, 3) := by decide +kernel
theorem dX8_go_31 : decode cX8_go 31 = .ok (.aload_n 0, 1) := by decide +kernel
theorem dX8_go_32 : decode cX8_go 32 = .ok (.getfield 54, 3) := by decide +kernel
theorem dX8_go_35 : decode cX8_go 35 = .ok (.iload_n 1, 1) := by decide +kernel
theorem dX8_go_36 : decode cX8_go 36 = .ok (.iaload, 1) := by decide +kernel
theorem dX8_go_37 : decode cX8_go 37 = .ok (.istore_n 2, 1) := by decide +kernel
theorem dX8_go_38 : decode cX8_go 38 = .ok (.aload_n 0, 1) := by decide +kernel
theorem dX8_go_39 : decode cX8_go 39 = .ok (.iload_n 2, 1) := by decide +kernel
theorem dX8_go_40 : decode cX8_go 40 = .ok (.aload_n 0, 1) := by decide +kernel
theorem dX8_go_41 : decode cX8_go 41 = .ok (.getfield 57, 3) := by decide +kernel
theorem dX8_go_44 : decode cX8_go 44 = .ok (.iload_n 1, 1) := by decide +kernel
theorem dX8_go_45 : decode cX8_go 45 = .ok (.iaload, 1) := by decide +kernel
theorem dX8_go_46 : decode cX8_go 46 = .ok (.invokevirtual 125, 3) := by decide +kernel
theorem dX8_go_49 : decode cX8_go 49 = .ok (.istore_n 3, 1) := by decide +kernel
theorem dX8_go_50 : decode cX8_go 50 = .ok (.aload_n 0, 1) := by decide +kernel
theorem dX8_go_51 : decode cX8_go 51 = .ok (.getfield 57, 3) := by decide +kernel
theorem dX8_go_54 : decode cX8_go 54 = .ok (.iload_n 1, 1) := by decide +kernel
theorem dX8_go_55 : decode cX8_go 55 = .ok (.iload_n 3, 1) := by decide +kernel
theorem dX8_go_56 : decode cX8_go 56 = .ok (.iconst 1, 1) := by decide +kernel
theorem dX8_go_57 : decode cX8_go 57 = .ok (.iadd, 1) := by decide +kernel
theorem dX8_go_58 : decode cX8_go 58 = .ok (.iastore, 1) := by decide +kernel
theorem dX8_go_59 : decode cX8_go 59 = .ok (.iload_n 3, 1) := by decide +kernel
theorem dX8_go_60 : decode cX8_go 60 = .ok (.aload_n 0, 1) := by decide +kernel
theorem dX8_go_61 : decode cX8_go 61 = .ok (.getfield 89, 3) := by decide +kernel
theorem dX8_go_64 : decode cX8_go 64 = .ok (.if_icmp .ne 9, 3) := by decide +kernel
theorem dX8_go_67 : decode cX8_go 67 = .ok (.iinc 1 (-1), 3) := by decide +kernel
theorem dX8_go_70 : decode cX8_go 70 = .ok (.goto 77, 3) := by decide +kernel
theorem dX8_go_73 : decode cX8_go 73 = .ok (.aload_n 0, 1) := by decide +kernel
theorem dX8_go_74 : decode cX8_go 74 = .ok (.getfield 36, 3) := by decide +kernel
theorem dX8_go_77 : decode cX8_go 77 = .ok (.iload_n 3, 1) := by decide +kernel
theorem dX8_go_78 : decode cX8_go 78 = .ok (.iaload, 1) := by decide +kernel
theorem dX8_go_79 : decode cX8_go 79 = .ok (.sipush 1000, 3) := by decide +kernel
theorem dX8_go_82 : decode cX8_go 82 = .ok (.if_icmp .lt 17, 3) := by decide +kernel
theorem dX8_go_85 : decode cX8_go 85 = .ok (.aload_n 0, 1) := by decide +kernel
theorem dX8_go_86 : decode cX8_go 86 = .ok (.aload_n 0, 1) := by decide +kernel
theorem dX8_go_87 : decode cX8_go 87 = .ok (.getfield 36, 3) := by decide +kernel
theorem dX8_go_90 : decode cX8_go 90 = .ok (.iload_n 3, 1) := by decide +kernel
theorem dX8_go_91 : decode cX8_go 91 = .ok (.iaload, 1) := by decide +kernel
theorem dX8_go_92 : decode cX8_go 92 = .ok (.iload_n 2, 1) := by decide +kernel
theorem dX8_go_93 : decode cX8_go 93 = .ok (.invokevirtual 121, 3) := by decide +kernel
theorem dX8_go_96 : decode cX8_go 96 = .ok (.goto 51, 3) := by decide +kernel
theorem dX8_go_99 : decode cX8_go 99 = .ok (.aload_n 0, 1) := by decide +kernel
theorem dX8_go_100 : decode cX8_go 100 = .ok (.aload_n 0, 1) := by decide +kernel
theorem dX8_go_101 : decode cX8_go 101 = .ok (.getfield 36, 3) := by decide +kernel
theorem dX8_go_104 : decode cX8_go 104 = .ok (.iload_n 3, 1) := by decide +kernel
theorem dX8_go_105 : decode cX8_go 105 = .ok (.iaload, 1) := by decide +kernel
theorem dX8_go_106 : decode cX8_go 106 = .ok (.bipush 12, 2) := by decide +kernel
theorem dX8_go_108 : decode cX8_go 108 = .ok (.invokevirtual 129, 3) := by decide +kernel
theorem dX8_go_111 : decode cX8_go 111 = .ok (.ifCond .ne 36, 3) := by decide +kernel
theorem dX8_go_114 : decode cX8_go 114 = .ok (.iinc 1 1, 3) := by decide +kernel
theorem dX8_go_117 : decode cX8_go 117 = .ok (.aload_n 0, 1) := by decide +kernel
theorem dX8_go_118 : decode cX8_go 118 = .ok (.getfield 54, 3) := by decide +kernel
theorem dX8_go_121 : decode cX8_go 121 = .ok (.iload_n 1, 1) := by decide +kernel
theorem dX8_go_122 : decode cX8_go 122 = .ok (.aload_n 0, 1) := by decide +kernel
theorem dX8_go_123 : decode cX8_go 123 = .ok (.getfield 36, 3) := by decide +kernel
theorem dX8_go_126 : decode cX8_go 126 = .ok (.iload_n 3, 1) := by decide +kernel
theorem dX8_go_127 : decode cX8_go 127 = .ok (.iaload, 1) := by decide +kernel
theorem dX8_go_128 : decode cX8_go 128 = .ok (.iastore, 1) := by decide +kernel
theorem dX8_go_129 : decode cX8_go 129 = .ok (.aload_n 0, 1) := by decide +kernel
theorem dX8_go_130 : decode cX8_go 130 = .ok (.getfield 57, 3) := by decide +kernel
theorem dX8_go_133 : decode cX8_go 133 = .ok (.iload_n 1, 1) := by decide +kernel
theorem dX8_go_134 : decode cX8_go 134 = .ok (.iconst 0, 1) := by decide +kernel
theorem dX8_go_135 : decode cX8_go 135 = .ok (.iastore, 1) := by decide +kernel
theorem dX8_go_136 : decode cX8_go 136 = .ok (.aload_n 0, 1) := by decide +kernel
theorem dX8_go_137 : decode cX8_go 137 = .ok (.aload_n 0, 1) := by decide +kernel
theorem dX8_go_138 : decode cX8_go 138 = .ok (.getfield 36, 3) := by decide +kernel
theorem dX8_go_141 : decode cX8_go 141 = .ok (.iload_n 3, 1) := by decide +kernel
theorem dX8_go_142 : decode cX8_go 142 = .ok (.iaload, 1) := by decide +kernel
theorem dX8_go_143 : decode cX8_go 143 = .ok (.iload_n 2, 1) := by decide +kernel
theorem dX8_go_144 : decode cX8_go 144 = .ok (.invokevirtual 121, 3) := by decide +kernel
theorem dX8_go_147 : decode cX8_go 147 = .ok (.goto (-120), 3) := by decide +kernel
theorem dX8_go_150 : decode cX8_go 150 = .ok (.aload_n 0, 1) := by decide +kernel
theorem dX8_go_151 : decode cX8_go 151 = .ok (.iconst 0, 1) := by decide +kernel
theorem dX8_go_152 : decode cX8_go 152 = .ok (.putfield 132, 3) := by decide +kernel
theorem dX8_go_155 : decode cX8_go 155 = .ok (.iconst 0, 1) := by decide +kernel
theorem dX8_go_156 : decode cX8_go 156 = .ok (.istore_n 2, 1) := by decide +kernel
theorem dX8_go_157 : decode cX8_go 157 = .ok (.iload_n 2, 1) := by decide +kernel
theorem dX8_go_158 : decode cX8_go 158 = .ok (.aload_n 0, 1) := by decide +kernel
theorem dX8_go_159 : decode cX8_go 159 = .ok (.getfield 118, 3) := by decide +kernel
theorem dX8_go_162 : decode cX8_go 162 = .ok (.if_icmp .ge 135, 3) := by decide +kernel
theorem dX8_go_165 : decode cX8_go 165 = .ok (.aload_n 0, 1) := by decide +kernel
theorem dX8_go_166 : decode cX8_go 166 = .ok (.getfield 48, 3) := by decide +kernel
theorem dX8_go_169 : decode cX8_go 169 = .ok (.iload_n 2, 1) := by decide +kernel
theorem dX8_go_170 : decode cX8_go 170 = .ok (.iaload, 1) := by decide +kernel
theorem dX8_go_171 : decode cX8_go 171 = .ok (.istore_n 3, 1) := by decide +kernel
theorem dX8_go_172 : decode cX8_go 172 = .ok (.iload_n 3, 1) := by decide +kernel
theorem dX8_go_173 : decode cX8_go 173 = .ok (.sipush 1000, 3) := by decide +kernel
theorem dX8_go_176 : decode cX8_go 176 = .ok (.if_icmp .ge 115, 3) := by decide +kernel
theorem dX8_go_179 : decode cX8_go 179 = .ok (.aload_n 0, 1) := by decide +kernel
theorem dX8_go_180 : decode cX8_go 180 = .ok (.iload_n 3, 1) := by decide +kernel
theorem dX8_go_181 : decode cX8_go 181 = .ok (.iconst 2, 1) := by decide +kernel
theorem dX8_go_182 : decode cX8_go 182 = .ok (.invokevirtual 129, 3) := by decide +kernel
theorem dX8_go_185 : decode cX8_go 185 = .ok (.ifCond .eq 106, 3) := by decide +kernel
theorem dX8_go_188 : decode cX8_go 188 = .ok (.aload_n 0, 1) := by decide +kernel
theorem dX8_go_189 : decode cX8_go 189 = .ok (.getfield 17, 3) := by decide +kernel
theorem dX8_go_192 : decode cX8_go 192 = .ok (.iload_n 3, 1) := by decide +kernel
theorem dX8_go_193 : decode cX8_go 193 = .ok (.iaload, 1) := by decide +kernel
theorem dX8_go_194 : decode cX8_go 194 = .ok (.ifCond .le 97, 3) := by decide +kernel
theorem dX8_go_197 : decode cX8_go 197 = .ok (.iconst 0, 1) := by decide +kernel
theorem dX8_go_198 : decode cX8_go 198 = .ok (.istore 4, 2) := by decide +kernel
theorem dX8_go_200 : decode cX8_go 200 = .ok (.aload_n 0, 1) := by decide +kernel
theorem dX8_go_201 : decode cX8_go 201 = .ok (.getfield 132, 3) := by decide +kernel
theorem dX8_go_204 : decode cX8_go 204 = .ok (.iconst 1, 1) := by decide +kernel
theorem dX8_go_205 : decode cX8_go 205 = .ok (.isub, 1) := by decide +kernel
theorem dX8_go_206 : decode cX8_go 206 = .ok (.istore 5, 2) := by decide +kernel
theorem dX8_go_208 : decode cX8_go 208 = .ok (.iload 5, 2) := by decide +kernel
theorem dX8_go_210 : decode cX8_go 210 = .ok (.ifCond .lt 50, 3) := by decide +kernel
theorem dX8_go_213 : decode cX8_go 213 = .ok (.iload 4, 2) := by decide +kernel
theorem dX8_go_215 : decode cX8_go 215 = .ok (.ifCond .ne 45, 3) := by decide +kernel
theorem dX8_go_218 : decode cX8_go 218 = .ok (.aload_n 0, 1) := by decide +kernel
theorem dX8_go_219 : decode cX8_go 219 = .ok (.getfield 17, 3) := by decide +kernel
theorem dX8_go_222 : decode cX8_go 222 = .ok (.aload_n 0, 1) := by decide +kernel
theorem dX8_go_223 : decode cX8_go 223 = .ok (.getfield 60, 3) := by decide +kernel
theorem dX8_go_226 : decode cX8_go 226 = .ok (.iload 5, 2) := by decide +kernel
theorem dX8_go_228 : decode cX8_go 228 = .ok (.iaload, 1) := by decide +kernel
theorem dX8_go_229 : decode cX8_go 229 = .ok (.iaload, 1) := by decide +kernel
theorem dX8_go_230 : decode cX8_go 230 = .ok (.aload_n 0, 1) := by decide +kernel
theorem dX8_go_231 : decode cX8_go 231 = .ok (.getfield 17, 3) := by decide +kernel
theorem dX8_go_234 : decode cX8_go 234 = .ok (.iload_n 3, 1) := by decide +kernel
theorem dX8_go_235 : decode cX8_go 235 = .ok (.iaload, 1) := by decide +kernel
theorem dX8_go_236 : decode cX8_go 236 = .ok (.if_icmp .ge 15, 3) := by decide +kernel
theorem dX8_go_239 : decode cX8_go 239 = .ok (.aload_n 0, 1) := by decide +kernel
theorem dX8_go_240 : decode cX8_go 240 = .ok (.getfield 63, 3) := by decide +kernel
theorem dX8_go_243 : decode cX8_go 243 = .ok (.iload 5, 2) := by decide +kernel
theorem dX8_go_245 : decode cX8_go 245 = .ok (.iaload, 1) := by decide +kernel
theorem dX8_go_246 : decode cX8_go 246 = .ok (.iconst 1, 1) := by decide +kernel
theorem dX8_go_247 : decode cX8_go 247 = .ok (.iadd, 1) := by decide +kernel
theorem dX8_go_248 : decode cX8_go 248 = .ok (.goto 4, 3) := by decide +kernel
theorem dX8_go_251 : decode cX8_go 251 = .ok (.iconst 0, 1) := by decide +kernel
theorem dX8_go_252 : decode cX8_go 252 = .ok (.istore 4, 2) := by decide +kernel
theorem dX8_go_254 : decode cX8_go 254 = .ok (.iinc 5 (-1), 3) := by decide +kernel
theorem dX8_go_257 : decode cX8_go 257 = .ok (.goto (-49), 3) := by decide +kernel
theorem dX8_go_260 : decode cX8_go 260 = .ok (.aload_n 0, 1) := by decide +kernel
theorem dX8_go_261 : decode cX8_go 261 = .ok (.getfield 60, 3) := by decide +kernel
theorem dX8_go_264 : decode cX8_go 264 = .ok (.aload_n 0, 1) := by decide +kernel
theorem dX8_go_265 : decode cX8_go 265 = .ok (.getfield 132, 3) := by decide +kernel
theorem dX8_go_268 : decode cX8_go 268 = .ok (.iload_n 3, 1) := by decide +kernel
theorem dX8_go_269 : decode cX8_go 269 = .ok (.iastore, 1) := by decide +kernel
theorem dX8_go_270 : decode cX8_go 270 = .ok (.aload_n 0, 1) := by decide +kernel
theorem dX8_go_271 : decode cX8_go 271 = .ok (.getfield 63, 3) := by decide +kernel
theorem dX8_go_274 : decode cX8_go 274 = .ok (.aload_n 0, 1) := by decide +kernel
theorem dX8_go_275 : decode cX8_go 275 = .ok (.getfield 132, 3) := by decide +kernel
theorem dX8_go_278 : decode cX8_go 278 = .ok (.iload 4, 2) := by decide +kernel
theorem dX8_go_280 : decode cX8_go 280 = .ok (.iastore, 1) := by decide +kernel
theorem dX8_go_281 : decode cX8_go 281 = .ok (.aload_n 0, 1) := by decide +kernel
theorem dX8_go_282 : decode cX8_go 282 = .ok (.dup, 1) := by decide +kernel
theorem dX8_go_283 : decode cX8_go 283 = .ok (.getfield 132, 3) := by decide +kernel
theorem dX8_go_286 : decode cX8_go 286 = .ok (.iconst 1, 1) := by decide +kernel
theorem dX8_go_287 : decode cX8_go 287 = .ok (.iadd, 1) := by decide +kernel
theorem dX8_go_288 : decode cX8_go 288 = .ok (.putfield 132, 3) := by decide +kernel
theorem dX8_go_291 : decode cX8_go 291 = .ok (.iinc 2 1, 3) := by decide +kernel
theorem dX8_go_294 : decode cX8_go 294 = .ok (.goto (-137), 3) := by decide +kernel
theorem dX8_go_297 : decode cX8_go 297 = .ok (.return_, 1) := by decide +kernel
theorem dX8_partAt_0 : decode cX8_partAt 0 = .ok (.iconst 0, 1) := by decide +kernel
theorem dX8_partAt_1 : decode cX8_partAt 1 = .ok (.istore_n 2, 1) := by decide +kernel
theorem dX8_partAt_2 : decode cX8_partAt 2 = .ok (.iconst (-1), 1) := by decide +kernel
theorem dX8_partAt_3 : decode cX8_partAt 3 = .ok (.istore_n 3, 1) := by decide +kernel
theorem dX8_partAt_4 : decode cX8_partAt 4 = .ok (.iconst 0, 1) := by decide +kernel
theorem dX8_partAt_5 : decode cX8_partAt 5 = .ok (.istore 4, 2) := by decide +kernel
theorem dX8_partAt_7 : decode cX8_partAt 7 = .ok (.iload 4, 2) := by decide +kernel
theorem dX8_partAt_9 : decode cX8_partAt 9 = .ok (.aload_n 0, 1) := by decide +kernel
theorem dX8_partAt_10 : decode cX8_partAt 10 = .ok (.getfield 118, 3) := by decide +kernel
theorem dX8_partAt_13 : decode cX8_partAt 13 = .ok (.if_icmp .ge 37, 3) := by decide +kernel
theorem dX8_partAt_16 : decode cX8_partAt 16 = .ok (.aload_n 0, 1) := by decide +kernel
theorem dX8_partAt_17 : decode cX8_partAt 17 = .ok (.getfield 48, 3) := by decide +kernel
theorem dX8_partAt_20 : decode cX8_partAt 20 = .ok (.iload 4, 2) := by decide +kernel
theorem dX8_partAt_22 : decode cX8_partAt 22 = .ok (.iaload, 1) := by decide +kernel
theorem dX8_partAt_23 : decode cX8_partAt 23 = .ok (.sipush 1000, 3) := by decide +kernel
theorem dX8_partAt_26 : decode cX8_partAt 26 = .ok (.if_icmp .lt 18, 3) := by decide +kernel
theorem dX8_partAt_29 : decode cX8_partAt 29 = .ok (.iload_n 2, 1) := by decide +kernel
theorem dX8_partAt_30 : decode cX8_partAt 30 = .ok (.iload_n 1, 1) := by decide +kernel
theorem dX8_partAt_31 : decode cX8_partAt 31 = .ok (.if_icmp .ne 8, 3) := by decide +kernel
theorem dX8_partAt_34 : decode cX8_partAt 34 = .ok (.iload 4, 2) := by decide +kernel
theorem dX8_partAt_36 : decode cX8_partAt 36 = .ok (.goto 4, 3) := by decide +kernel
theorem dX8_partAt_39 : decode cX8_partAt 39 = .ok (.iload_n 3, 1) := by decide +kernel
theorem dX8_partAt_40 : decode cX8_partAt 40 = .ok (.istore_n 3, 1) := by decide +kernel
theorem dX8_partAt_41 : decode cX8_partAt 41 = .ok (.iinc 2 1, 3) := by decide +kernel
theorem dX8_partAt_44 : decode cX8_partAt 44 = .ok (.iinc 4 1, 3) := by decide +kernel
theorem dX8_partAt_47 : decode cX8_partAt 47 = .ok (.goto (-40), 3) := by decide +kernel
theorem dX8_partAt_50 : decode cX8_partAt 50 = .ok (.iload_n 1, 1) := by decide +kernel
theorem dX8_partAt_51 : decode cX8_partAt 51 = .ok (.iconst (-1), 1) := by decide +kernel
theorem dX8_partAt_52 : decode cX8_partAt 52 = .ok (.if_icmp .ne 7, 3) := by decide +kernel
theorem dX8_partAt_55 : decode cX8_partAt 55 = .ok (.iload_n 2, 1) := by decide +kernel
theorem dX8_partAt_56 : decode cX8_partAt 56 = .ok (.goto 4, 3) := by decide +kernel
theorem dX8_partAt_59 : decode cX8_partAt 59 = .ok (.iload_n 3, 1) := by decide +kernel
theorem dX8_partAt_60 : decode cX8_partAt 60 = .ok (.ireturn, 1) := by decide +kernel
theorem dX8_walk_0 : decode cX8_walk 0 = .ok (.aload_n 0, 1) := by decide +kernel
theorem dX8_walk_1 : decode cX8_walk 1 = .ok (.iconst 0, 1) := by decide +kernel
theorem dX8_walk_2 : decode cX8_walk 2 = .ok (.putfield 78, 3) := by decide +kernel
theorem dX8_walk_5 : decode cX8_walk 5 = .ok (.aload_n 0, 1) := by decide +kernel
theorem dX8_walk_6 : decode cX8_walk 6 = .ok (.invokevirtual 135, 3) := by decide +kernel
theorem dX8_walk_9 : decode cX8_walk 9 = .ok (.aload_n 0, 1) := by decide +kernel
theorem dX8_walk_10 : decode cX8_walk 10 = .ok (.iconst (-1), 1) := by decide +kernel
theorem dX8_walk_11 : decode cX8_walk 11 = .ok (.invokevirtual 138, 3) := by decide +kernel
theorem dX8_walk_14 : decode cX8_walk 14 = .ok (.ireturn, 1) := by decide +kernel
theorem dX8_at_0 : decode cX8_at 0 = .ok (.aload_n 0, 1) := by decide +kernel
theorem dX8_at_1 : decode cX8_at 1 = .ok (.invokevirtual 135, 3) := by decide +kernel
theorem dX8_at_4 : decode cX8_at 4 = .ok (.iload_n 1, 1) := by decide +kernel
theorem dX8_at_5 : decode cX8_at 5 = .ok (.ifCond .ge 7, 3) := by decide +kernel
theorem dX8_at_8 : decode cX8_at 8 = .ok (.iconst (-1), 1) := by decide +kernel
theorem dX8_at_9 : decode cX8_at 9 = .ok (.goto 8, 3) := by decide +kernel
theorem dX8_at_12 : decode cX8_at 12 = .ok (.aload_n 0, 1) := by decide +kernel
theorem dX8_at_13 : decode cX8_at 13 = .ok (.iload_n 1, 1) := by decide +kernel
theorem dX8_at_14 : decode cX8_at 14 = .ok (.invokevirtual 138, 3) := by decide +kernel
theorem dX8_at_17 : decode cX8_at 17 = .ok (.istore_n 3, 1) := by decide +kernel
theorem dX8_at_18 : decode cX8_at 18 = .ok (.aload_n 0, 1) := by decide +kernel
theorem dX8_at_19 : decode cX8_at 19 = .ok (.iload_n 3, 1) := by decide +kernel
theorem dX8_at_20 : decode cX8_at 20 = .ok (.iconst (-1), 1) := by decide +kernel
theorem dX8_at_21 : decode cX8_at 21 = .ok (.if_icmp .eq 12, 3) := by decide +kernel
theorem dX8_at_24 : decode cX8_at 24 = .ok (.iload_n 2, 1) := by decide +kernel
theorem dX8_at_25 : decode cX8_at 25 = .ok (.iconst 0, 1) := by decide +kernel
theorem dX8_at_26 : decode cX8_at 26 = .ok (.iconst 2, 1) := by decide +kernel
theorem dX8_at_27 : decode cX8_at 27 = .ok (.invokestatic 85, 3) := by decide +kernel
theorem dX8_at_30 : decode cX8_at 30 = .ok (.ifCond .ne 7, 3) := by decide +kernel
theorem dX8_at_33 : decode cX8_at 33 = .ok (.iconst 1, 1) := by decide +kernel
theorem dX8_at_34 : decode cX8_at 34 = .ok (.goto 4, 3) := by decide +kernel
theorem dX8_at_37 : decode cX8_at 37 = .ok (.iconst 0, 1) := by decide +kernel
theorem dX8_at_38 : decode cX8_at 38 = .ok (.putfield 78, 3) := by decide +kernel
theorem dX8_at_41 : decode cX8_at 41 = .ok (.aload_n 0, 1) := by decide +kernel
theorem dX8_at_42 : decode cX8_at 42 = .ok (.getfield 78, 3) := by decide +kernel
theorem dX8_at_45 : decode cX8_at 45 = .ok (.ifCond .le 5, 3) := by decide +kernel
theorem dX8_at_48 : decode cX8_at 48 = .ok (.iconst 0, 1) := by decide +kernel
theorem dX8_at_49 : decode cX8_at 49 = .ok (.ireturn, 1) := by decide +kernel
theorem dX8_at_50 : decode cX8_at 50 = .ok (.aload_n 0, 1) := by decide +kernel
theorem dX8_at_51 : decode cX8_at 51 = .ok (.getfield 48, 3) := by decide +kernel
theorem dX8_at_54 : decode cX8_at 54 = .ok (.iload_n 3, 1) := by decide +kernel
theorem dX8_at_55 : decode cX8_at 55 = .ok (.iaload, 1) := by decide +kernel
theorem dX8_at_56 : decode cX8_at 56 = .ok (.sipush 1000, 3) := by decide +kernel
theorem dX8_at_59 : decode cX8_at 59 = .ok (.isub, 1) := by decide +kernel
theorem dX8_at_60 : decode cX8_at 60 = .ok (.istore 4, 2) := by decide +kernel
theorem dX8_at_62 : decode cX8_at 62 = .ok (.iload_n 2, 1) := by decide +kernel
theorem dX8_at_63 : decode cX8_at 63 = .ok (.ifCond .ne 11, 3) := by decide +kernel
theorem dX8_at_66 : decode cX8_at 66 = .ok (.iload 4, 2) := by decide +kernel
theorem dX8_at_68 : decode cX8_at 68 = .ok (.bipush 20, 2) := by decide +kernel
theorem dX8_at_70 : decode cX8_at 70 = .ok (.idiv, 1) := by decide +kernel
theorem dX8_at_71 : decode cX8_at 71 = .ok (.goto 22, 3) := by decide +kernel
theorem dX8_at_74 : decode cX8_at 74 = .ok (.iload_n 2, 1) := by decide +kernel
theorem dX8_at_75 : decode cX8_at 75 = .ok (.iconst 1, 1) := by decide +kernel
theorem dX8_at_76 : decode cX8_at 76 = .ok (.if_icmp .ne 11, 3) := by decide +kernel
theorem dX8_at_79 : decode cX8_at 79 = .ok (.iload 4, 2) := by decide +kernel
theorem dX8_at_81 : decode cX8_at 81 = .ok (.bipush 20, 2) := by decide +kernel
theorem dX8_at_83 : decode cX8_at 83 = .ok (.irem, 1) := by decide +kernel
theorem dX8_at_84 : decode cX8_at 84 = .ok (.goto 9, 3) := by decide +kernel
theorem dX8_at_87 : decode cX8_at 87 = .ok (.aload_n 0, 1) := by decide +kernel
theorem dX8_at_88 : decode cX8_at 88 = .ok (.getfield 51, 3) := by decide +kernel
theorem dX8_at_91 : decode cX8_at 91 = .ok (.iload_n 3, 1) := by decide +kernel
theorem dX8_at_92 : decode cX8_at 92 = .ok (.iaload, 1) := by decide +kernel
theorem dX8_at_93 : decode cX8_at 93 = .ok (.ireturn, 1) := by decide +kernel
theorem dX8_parent_0 : decode cX8_parent 0 = .ok (.aload_n 0, 1) := by decide +kernel
theorem dX8_parent_1 : decode cX8_parent 1 = .ok (.iload_n 1, 1) := by decide +kernel
theorem dX8_parent_2 : decode cX8_parent 2 = .ok (.iload_n 2, 1) := by decide +kernel
theorem dX8_parent_3 : decode cX8_parent 3 = .ok (.invokestatic 96, 3) := by decide +kernel
theorem dX8_parent_6 : decode cX8_parent 6 = .ok (.ifCond .eq 7, 3) := by decide +kernel
theorem dX8_parent_9 : decode cX8_parent 9 = .ok (.iconst 0, 1) := by decide +kernel
theorem dX8_parent_10 : decode cX8_parent 10 = .ok (.goto 4, 3) := by decide +kernel
theorem dX8_parent_13 : decode cX8_parent 13 = .ok (.iconst 1, 1) := by decide +kernel
theorem dX8_parent_14 : decode cX8_parent 14 = .ok (.putfield 78, 3) := by decide +kernel
theorem dX8_parent_17 : decode cX8_parent 17 = .ok (.aload_n 0, 1) := by decide +kernel
theorem dX8_parent_18 : decode cX8_parent 18 = .ok (.getfield 78, 3) := by decide +kernel
theorem dX8_parent_21 : decode cX8_parent 21 = .ok (.ifCond .le 7, 3) := by decide +kernel
theorem dX8_parent_24 : decode cX8_parent 24 = .ok (.iconst 0, 1) := by decide +kernel
theorem dX8_parent_25 : decode cX8_parent 25 = .ok (.goto 13, 3) := by decide +kernel
theorem dX8_parent_28 : decode cX8_parent 28 = .ok (.aload_n 0, 1) := by decide +kernel
theorem dX8_parent_29 : decode cX8_parent 29 = .ok (.bipush 20, 2) := by decide +kernel
theorem dX8_parent_31 : decode cX8_parent 31 = .ok (.iload_n 1, 1) := by decide +kernel
theorem dX8_parent_32 : decode cX8_parent 32 = .ok (.imul, 1) := by decide +kernel
theorem dX8_parent_33 : decode cX8_parent 33 = .ok (.iload_n 2, 1) := by decide +kernel
theorem dX8_parent_34 : decode cX8_parent 34 = .ok (.iadd, 1) := by decide +kernel
theorem dX8_parent_35 : decode cX8_parent 35 = .ok (.invokevirtual 99, 3) := by decide +kernel
theorem dX8_parent_38 : decode cX8_parent 38 = .ok (.ireturn, 1) := by decide +kernel
theorem dX8_add_0 : decode cX8_add 0 = .ok (.aload_n 0, 1) := by decide +kernel
theorem dX8_add_1 : decode cX8_add 1 = .ok (.getfield 66, 3) := by decide +kernel
theorem dX8_add_4 : decode cX8_add 4 = .ok (.aload_n 0, 1) := by decide +kernel
theorem dX8_add_5 : decode cX8_add 5 = .ok (.getfield 141, 3) := by decide +kernel
theorem dX8_add_8 : decode cX8_add 8 = .ok (.iload_n 1, 1) := by decide +kernel
theorem dX8_add_9 : decode cX8_add 9 = .ok (.iastore, 1) := by decide +kernel
theorem dX8_add_10 : decode cX8_add 10 = .ok (.aload_n 0, 1) := by decide +kernel
theorem dX8_add_11 : decode cX8_add 11 = .ok (.getfield 69, 3) := by decide +kernel
theorem dX8_add_14 : decode cX8_add 14 = .ok (.aload_n 0, 1) := by decide +kernel
theorem dX8_add_15 : decode cX8_add 15 = .ok (.getfield 141, 3) := by decide +kernel
theorem dX8_add_18 : decode cX8_add 18 = .ok (.iload_n 2, 1) := by decide +kernel
theorem dX8_add_19 : decode cX8_add 19 = .ok (.iastore, 1) := by decide +kernel
theorem dX8_add_20 : decode cX8_add 20 = .ok (.aload_n 0, 1) := by decide +kernel
theorem dX8_add_21 : decode cX8_add 21 = .ok (.getfield 72, 3) := by decide +kernel
theorem dX8_add_24 : decode cX8_add 24 = .ok (.aload_n 0, 1) := by decide +kernel
theorem dX8_add_25 : decode cX8_add 25 = .ok (.getfield 141, 3) := by decide +kernel
theorem dX8_add_28 : decode cX8_add 28 = .ok (.iload_n 3, 1) := by decide +kernel
theorem dX8_add_29 : decode cX8_add 29 = .ok (.iastore, 1) := by decide +kernel
theorem dX8_add_30 : decode cX8_add 30 = .ok (.aload_n 0, 1) := by decide +kernel
theorem dX8_add_31 : decode cX8_add 31 = .ok (.dup, 1) := by decide +kernel
theorem dX8_add_32 : decode cX8_add 32 = .ok (.getfield 141, 3) := by decide +kernel
theorem dX8_add_35 : decode cX8_add 35 = .ok (.iconst 1, 1) := by decide +kernel
theorem dX8_add_36 : decode cX8_add 36 = .ok (.iadd, 1) := by decide +kernel
theorem dX8_add_37 : decode cX8_add 37 = .ok (.putfield 141, 3) := by decide +kernel
theorem dX8_add_40 : decode cX8_add 40 = .ok (.return_, 1) := by decide +kernel
theorem dX8_parentOf_0 : decode cX8_parentOf 0 = .ok (.iconst (-1), 1) := by decide +kernel
theorem dX8_parentOf_1 : decode cX8_parentOf 1 = .ok (.istore_n 2, 1) := by decide +kernel
theorem dX8_parentOf_2 : decode cX8_parentOf 2 = .ok (.iconst 0, 1) := by decide +kernel
theorem dX8_parentOf_3 : decode cX8_parentOf 3 = .ok (.istore_n 3, 1) := by decide +kernel
theorem dX8_parentOf_4 : decode cX8_parentOf 4 = .ok (.iload_n 3, 1) := by decide +kernel
theorem dX8_parentOf_5 : decode cX8_parentOf 5 = .ok (.aload_n 0, 1) := by decide +kernel
theorem dX8_parentOf_6 : decode cX8_parentOf 6 = .ok (.getfield 89, 3) := by decide +kernel
theorem dX8_parentOf_9 : decode cX8_parentOf 9 = .ok (.if_icmp .ge 30, 3) := by decide +kernel
theorem dX8_parentOf_12 : decode cX8_parentOf 12 = .ok (.aload_n 0, 1) := by decide +kernel
theorem dX8_parentOf_13 : decode cX8_parentOf 13 = .ok (.getfield 36, 3) := by decide +kernel
theorem dX8_parentOf_16 : decode cX8_parentOf 16 = .ok (.iload_n 3, 1) := by decide +kernel
theorem dX8_parentOf_17 : decode cX8_parentOf 17 = .ok (.iaload, 1) := by decide +kernel
theorem dX8_parentOf_18 : decode cX8_parentOf 18 = .ok (.iload_n 1, 1) := by decide +kernel
theorem dX8_parentOf_19 : decode cX8_parentOf 19 = .ok (.if_icmp .ne 12, 3) := by decide +kernel
theorem dX8_parentOf_22 : decode cX8_parentOf 22 = .ok (.aload_n 0, 1) := by decide +kernel
theorem dX8_parentOf_23 : decode cX8_parentOf 23 = .ok (.getfield 33, 3) := by decide +kernel
theorem dX8_parentOf_26 : decode cX8_parentOf 26 = .ok (.iload_n 3, 1) := by decide +kernel
theorem dX8_parentOf_27 : decode cX8_parentOf 27 = .ok (.iaload, 1) := by decide +kernel
theorem dX8_parentOf_28 : decode cX8_parentOf 28 = .ok (.goto 4, 3) := by decide +kernel
theorem dX8_parentOf_31 : decode cX8_parentOf 31 = .ok (.iload_n 2, 1) := by decide +kernel
theorem dX8_parentOf_32 : decode cX8_parentOf 32 = .ok (.istore_n 2, 1) := by decide +kernel
theorem dX8_parentOf_33 : decode cX8_parentOf 33 = .ok (.iinc 3 1, 3) := by decide +kernel
theorem dX8_parentOf_36 : decode cX8_parentOf 36 = .ok (.goto (-32), 3) := by decide +kernel
theorem dX8_parentOf_39 : decode cX8_parentOf 39 = .ok (.iload_n 2, 1) := by decide +kernel
theorem dX8_parentOf_40 : decode cX8_parentOf 40 = .ok (.ireturn, 1) := by decide +kernel
theorem dX8_isCell_0 : decode cX8_isCell 0 = .ok (.aload_n 0, 1) := by decide +kernel
theorem dX8_isCell_1 : decode cX8_isCell 1 = .ok (.iload_n 1, 1) := by decide +kernel
theorem dX8_isCell_2 : decode cX8_isCell 2 = .ok (.bipush 8, 2) := by decide +kernel
theorem dX8_isCell_4 : decode cX8_isCell 4 = .ok (.invokevirtual 129, 3) := by decide +kernel
theorem dX8_isCell_7 : decode cX8_isCell 7 = .ok (.ifCond .ne 13, 3) := by decide +kernel
theorem dX8_isCell_10 : decode cX8_isCell 10 = .ok (.aload_n 0, 1) := by decide +kernel
theorem dX8_isCell_11 : decode cX8_isCell 11 = .ok (.iload_n 1, 1) := by decide +kernel
theorem dX8_isCell_12 : decode cX8_isCell 12 = .ok (.bipush 9, 2) := by decide +kernel
theorem dX8_isCell_14 : decode cX8_isCell 14 = .ok (.invokevirtual 129, 3) := by decide +kernel
theorem dX8_isCell_17 : decode cX8_isCell 17 = .ok (.ifCond .eq 7, 3) := by decide +kernel
theorem dX8_isCell_20 : decode cX8_isCell 20 = .ok (.iconst 1, 1) := by decide +kernel
theorem dX8_isCell_21 : decode cX8_isCell 21 = .ok (.goto 4, 3) := by decide +kernel
theorem dX8_isCell_24 : decode cX8_isCell 24 = .ok (.iconst 0, 1) := by decide +kernel
theorem dX8_isCell_25 : decode cX8_isCell 25 = .ok (.ireturn, 1) := by decide +kernel
theorem dX8_suits_0 : decode cX8_suits 0 = .ok (.iload_n 0, 1) := by decide +kernel
theorem dX8_suits_1 : decode cX8_suits 1 = .ok (.ifCond .eq 7, 3) := by decide +kernel
theorem dX8_suits_4 : decode cX8_suits 4 = .ok (.iload_n 1, 1) := by decide +kernel
theorem dX8_suits_5 : decode cX8_suits 5 = .ok (.goto 16, 3) := by decide +kernel
theorem dX8_suits_8 : decode cX8_suits 8 = .ok (.iload_n 1, 1) := by decide +kernel
theorem dX8_suits_9 : decode cX8_suits 9 = .ok (.ifCond .eq 7, 3) := by decide +kernel
theorem dX8_suits_12 : decode cX8_suits 12 = .ok (.iload_n 2, 1) := by decide +kernel
theorem dX8_suits_13 : decode cX8_suits 13 = .ok (.ifCond .eq 7, 3) := by decide +kernel
theorem dX8_suits_16 : decode cX8_suits 16 = .ok (.iconst 1, 1) := by decide +kernel
theorem dX8_suits_17 : decode cX8_suits 17 = .ok (.goto 4, 3) := by decide +kernel
theorem dX8_suits_20 : decode cX8_suits 20 = .ok (.iconst 0, 1) := by decide +kernel
theorem dX8_suits_21 : decode cX8_suits 21 = .ok (.ireturn, 1) := by decide +kernel
theorem dX8_isPlaced_0 : decode cX8_isPlaced 0 = .ok (.aload_n 0, 1) := by decide +kernel
theorem dX8_isPlaced_1 : decode cX8_isPlaced 1 = .ok (.iload_n 1, 1) := by decide +kernel
theorem dX8_isPlaced_2 : decode cX8_isPlaced 2 = .ok (.invokevirtual 144, 3) := by decide +kernel
theorem dX8_isPlaced_5 : decode cX8_isPlaced 5 = .ok (.istore_n 2, 1) := by decide +kernel
theorem dX8_isPlaced_6 : decode cX8_isPlaced 6 = .ok (.aload_n 0, 1) := by decide +kernel
theorem dX8_isPlaced_7 : decode cX8_isPlaced 7 = .ok (.iload_n 1, 1) := by decide +kernel
theorem dX8_isPlaced_8 : decode cX8_isPlaced 8 = .ok (.bipush 12, 2) := by decide +kernel
theorem dX8_isPlaced_10 : decode cX8_isPlaced 10 = .ok (.invokevirtual 129, 3) := by decide +kernel
theorem dX8_isPlaced_13 : decode cX8_isPlaced 13 = .ok (.istore_n 3, 1) := by decide +kernel
theorem dX8_isPlaced_14 : decode cX8_isPlaced 14 = .ok (.aload_n 0, 1) := by decide +kernel
theorem dX8_isPlaced_15 : decode cX8_isPlaced 15 = .ok (.iload_n 1, 1) := by decide +kernel
theorem dX8_isPlaced_16 : decode cX8_isPlaced 16 = .ok (.iconst 5, 1) := by decide +kernel
theorem dX8_isPlaced_17 : decode cX8_isPlaced 17 = .ok (.invokevirtual 129, 3) := by decide +kernel
theorem dX8_isPlaced_20 : decode cX8_isPlaced 20 = .ok (.iload_n 2, 1) := by decide +kernel
theorem dX8_isPlaced_21 : decode cX8_isPlaced 21 = .ok (.iconst (-1), 1) := by decide +kernel
theorem dX8_isPlaced_22 : decode cX8_isPlaced 22 = .ok (.if_icmp .eq 16, 3) := by decide +kernel
theorem dX8_isPlaced_25 : decode cX8_isPlaced 25 = .ok (.aload_n 0, 1) := by decide +kernel
theorem dX8_isPlaced_26 : decode cX8_isPlaced 26 = .ok (.iload_n 2, 1) := by decide +kernel
theorem dX8_isPlaced_27 : decode cX8_isPlaced 27 = .ok (.iconst 4, 1) := by decide +kernel
theorem dX8_isPlaced_28 : decode cX8_isPlaced 28 = .ok (.invokevirtual 129, 3) := by decide +kernel
theorem dX8_isPlaced_31 : decode cX8_isPlaced 31 = .ok (.ifCond .eq 7, 3) := by decide +kernel
theorem dX8_isPlaced_34 : decode cX8_isPlaced 34 = .ok (.iconst 1, 1) := by decide +kernel
theorem dX8_isPlaced_35 : decode cX8_isPlaced 35 = .ok (.goto 4, 3) := by decide +kernel
theorem dX8_isPlaced_38 : decode cX8_isPlaced 38 = .ok (.iconst 0, 1) := by decide +kernel
theorem dX8_isPlaced_39 : decode cX8_isPlaced 39 = .ok (.iload_n 3, 1) := by decide +kernel
theorem dX8_isPlaced_40 : decode cX8_isPlaced 40 = .ok (.invokestatic 147, 3) := by decide +kernel
theorem dX8_isPlaced_43 : decode cX8_isPlaced 43 = .ok (.istore 4, 2) := by decide +kernel
theorem dX8_isPlaced_45 : decode cX8_isPlaced 45 = .ok (.aload_n 0, 1) := by decide +kernel
theorem dX8_isPlaced_46 : decode cX8_isPlaced 46 = .ok (.iload_n 1, 1) := by decide +kernel
theorem dX8_isPlaced_47 : decode cX8_isPlaced 47 = .ok (.bipush 7, 2) := by decide +kernel
theorem dX8_isPlaced_49 : decode cX8_isPlaced 49 = .ok (.invokevirtual 129, 3) := by decide +kernel
theorem dX8_isPlaced_52 : decode cX8_isPlaced 52 = .ok (.iload_n 2, 1) := by decide +kernel
theorem dX8_isPlaced_53 : decode cX8_isPlaced 53 = .ok (.iconst (-1), 1) := by decide +kernel
theorem dX8_isPlaced_54 : decode cX8_isPlaced 54 = .ok (.if_icmp .eq 17, 3) := by decide +kernel
theorem dX8_isPlaced_57 : decode cX8_isPlaced 57 = .ok (.aload_n 0, 1) := by decide +kernel
theorem dX8_isPlaced_58 : decode cX8_isPlaced 58 = .ok (.iload_n 2, 1) := by decide +kernel
theorem dX8_isPlaced_59 : decode cX8_isPlaced 59 = .ok (.bipush 6, 2) := by decide +kernel
theorem dX8_isPlaced_61 : decode cX8_isPlaced 61 = .ok (.invokevirtual 129, 3) := by decide +kernel
theorem dX8_isPlaced_64 : decode cX8_isPlaced 64 = .ok (.ifCond .eq 7, 3) := by decide +kernel
theorem dX8_isPlaced_67 : decode cX8_isPlaced 67 = .ok (.iconst 1, 1) := by decide +kernel
theorem dX8_isPlaced_68 : decode cX8_isPlaced 68 = .ok (.goto 4, 3) := by decide +kernel
theorem dX8_isPlaced_71 : decode cX8_isPlaced 71 = .ok (.iconst 0, 1) := by decide +kernel
theorem dX8_isPlaced_72 : decode cX8_isPlaced 72 = .ok (.iload_n 3, 1) := by decide +kernel
theorem dX8_isPlaced_73 : decode cX8_isPlaced 73 = .ok (.invokestatic 147, 3) := by decide +kernel
theorem dX8_isPlaced_76 : decode cX8_isPlaced 76 = .ok (.istore 5, 2) := by decide +kernel
theorem dX8_isPlaced_78 : decode cX8_isPlaced 78 = .ok (.iload 4, 2) := by decide +kernel
theorem dX8_isPlaced_80 : decode cX8_isPlaced 80 = .ok (.ifCond .eq 44, 3) := by decide +kernel
theorem dX8_isPlaced_83 : decode cX8_isPlaced 83 = .ok (.iload 5, 2) := by decide +kernel
theorem dX8_isPlaced_85 : decode cX8_isPlaced 85 = .ok (.ifCond .eq 39, 3) := by decide +kernel
theorem dX8_isPlaced_88 : decode cX8_isPlaced 88 = .ok (.aload_n 0, 1) := by decide +kernel
theorem dX8_isPlaced_89 : decode cX8_isPlaced 89 = .ok (.iload_n 1, 1) := by decide +kernel
theorem dX8_isPlaced_90 : decode cX8_isPlaced 90 = .ok (.invokevirtual 151, 3) := by decide +kernel
theorem dX8_isPlaced_93 : decode cX8_isPlaced 93 = .ok (.iload_n 2, 1) := by decide +kernel
theorem dX8_isPlaced_94 : decode cX8_isPlaced 94 = .ok (.iconst (-1), 1) := by decide +kernel
theorem dX8_isPlaced_95 : decode cX8_isPlaced 95 = .ok (.if_icmp .eq 17, 3) := by decide +kernel
theorem dX8_isPlaced_98 : decode cX8_isPlaced 98 = .ok (.aload_n 0, 1) := by decide +kernel
theorem dX8_isPlaced_99 : decode cX8_isPlaced 99 = .ok (.iload_n 2, 1) := by decide +kernel
theorem dX8_isPlaced_100 : decode cX8_isPlaced 100 = .ok (.bipush 7, 2) := by decide +kernel
theorem dX8_isPlaced_102 : decode cX8_isPlaced 102 = .ok (.invokevirtual 129, 3) := by decide +kernel
theorem dX8_isPlaced_105 : decode cX8_isPlaced 105 = .ok (.ifCond .eq 7, 3) := by decide +kernel
theorem dX8_isPlaced_108 : decode cX8_isPlaced 108 = .ok (.iconst 1, 1) := by decide +kernel
theorem dX8_isPlaced_109 : decode cX8_isPlaced 109 = .ok (.goto 4, 3) := by decide +kernel
theorem dX8_isPlaced_112 : decode cX8_isPlaced 112 = .ok (.iconst 0, 1) := by decide +kernel
theorem dX8_isPlaced_113 : decode cX8_isPlaced 113 = .ok (.iload_n 3, 1) := by decide +kernel
theorem dX8_isPlaced_114 : decode cX8_isPlaced 114 = .ok (.invokestatic 147, 3) := by decide +kernel
theorem dX8_isPlaced_117 : decode cX8_isPlaced 117 = .ok (.ifCond .eq 7, 3) := by decide +kernel
theorem dX8_isPlaced_120 : decode cX8_isPlaced 120 = .ok (.iconst 1, 1) := by decide +kernel
theorem dX8_isPlaced_121 : decode cX8_isPlaced 121 = .ok (.goto 4, 3) := by decide +kernel
theorem dX8_isPlaced_124 : decode cX8_isPlaced 124 = .ok (.iconst 0, 1) := by decide +kernel
theorem dX8_isPlaced_125 : decode cX8_isPlaced 125 = .ok (.ireturn, 1) := by decide +kernel
theorem dX8_lay_0 : decode cX8_lay 0 = .ok (.iconst 0, 1) := by decide +kernel
theorem dX8_lay_1 : decode cX8_lay 1 = .ok (.istore_n 3, 1) := by decide +kernel
theorem dX8_lay_2 : decode cX8_lay 2 = .ok (.iconst 0, 1) := by decide +kernel
theorem dX8_lay_3 : decode cX8_lay 3 = .ok (.istore 4, 2) := by decide +kernel
theorem dX8_lay_5 : decode cX8_lay 5 = .ok (.aload_n 0, 1) := by decide +kernel
theorem dX8_lay_6 : decode cX8_lay 6 = .ok (.iload_n 1, 1) := by decide +kernel
theorem dX8_lay_7 : decode cX8_lay 7 = .ok (.iconst 0, 1) := by decide +kernel
theorem dX8_lay_8 : decode cX8_lay 8 = .ok (.invokevirtual 125, 3) := by decide +kernel
theorem dX8_lay_11 : decode cX8_lay 11 = .ok (.istore 5, 2) := by decide +kernel
theorem dX8_lay_13 : decode cX8_lay 13 = .ok (.iload 5, 2) := by decide +kernel
theorem dX8_lay_15 : decode cX8_lay 15 = .ok (.aload_n 0, 1) := by decide +kernel
theorem dX8_lay_16 : decode cX8_lay 16 = .ok (.getfield 89, 3) := by decide +kernel
theorem dX8_lay_19 : decode cX8_lay 19 = .ok (.if_icmp .ge 158, 3) := by decide +kernel
theorem dX8_lay_22 : decode cX8_lay 22 = .ok (.aload_n 0, 1) := by decide +kernel
theorem dX8_lay_23 : decode cX8_lay 23 = .ok (.getfield 36, 3) := by decide +kernel
theorem dX8_lay_26 : decode cX8_lay 26 = .ok (.iload 5, 2) := by decide +kernel
theorem dX8_lay_28 : decode cX8_lay 28 = .ok (.iaload, 1) := by decide +kernel
theorem dX8_lay_29 : decode cX8_lay 29 = .ok (.sipush 1000, 3) := by decide +kernel
theorem dX8_lay_32 : decode cX8_lay 32 = .ok (.if_icmp .ge 131, 3) := by decide +kernel
theorem dX8_lay_35 : decode cX8_lay 35 = .ok (.aload_n 0, 1) := by decide +kernel
theorem dX8_lay_36 : decode cX8_lay 36 = .ok (.aload_n 0, 1) := by decide +kernel
theorem dX8_lay_37 : decode cX8_lay 37 = .ok (.getfield 36, 3) := by decide +kernel
theorem dX8_lay_40 : decode cX8_lay 40 = .ok (.iload 5, 2) := by decide +kernel
theorem dX8_lay_42 : decode cX8_lay 42 = .ok (.iaload, 1) := by decide +kernel
theorem dX8_lay_43 : decode cX8_lay 43 = .ok (.invokevirtual 151, 3) := by decide +kernel
theorem dX8_lay_46 : decode cX8_lay 46 = .ok (.ifCond .eq 117, 3) := by decide +kernel
theorem dX8_lay_49 : decode cX8_lay 49 = .ok (.aload_n 0, 1) := by decide +kernel
theorem dX8_lay_50 : decode cX8_lay 50 = .ok (.getfield 75, 3) := by decide +kernel
theorem dX8_lay_53 : decode cX8_lay 53 = .ok (.iload 4, 2) := by decide +kernel
theorem dX8_lay_55 : decode cX8_lay 55 = .ok (.iaload, 1) := by decide +kernel
theorem dX8_lay_56 : decode cX8_lay 56 = .ok (.iload_n 2, 1) := by decide +kernel
theorem dX8_lay_57 : decode cX8_lay 57 = .ok (.if_icmp .le 9, 3) := by decide +kernel
theorem dX8_lay_60 : decode cX8_lay 60 = .ok (.iinc 4 1, 3) := by decide +kernel
theorem dX8_lay_63 : decode cX8_lay 63 = .ok (.goto (-14), 3) := by decide +kernel
theorem dX8_lay_66 : decode cX8_lay 66 = .ok (.iconst 0, 1) := by decide +kernel
theorem dX8_lay_67 : decode cX8_lay 67 = .ok (.istore 6, 2) := by decide +kernel
theorem dX8_lay_69 : decode cX8_lay 69 = .ok (.iload 6, 2) := by decide +kernel
theorem dX8_lay_71 : decode cX8_lay 71 = .ok (.aload_n 0, 1) := by decide +kernel
theorem dX8_lay_72 : decode cX8_lay 72 = .ok (.getfield 27, 3) := by decide +kernel
theorem dX8_lay_75 : decode cX8_lay 75 = .ok (.aload_n 0, 1) := by decide +kernel
theorem dX8_lay_76 : decode cX8_lay 76 = .ok (.getfield 36, 3) := by decide +kernel
theorem dX8_lay_79 : decode cX8_lay 79 = .ok (.iload 5, 2) := by decide +kernel
theorem dX8_lay_81 : decode cX8_lay 81 = .ok (.iaload, 1) := by decide +kernel
theorem dX8_lay_82 : decode cX8_lay 82 = .ok (.iaload, 1) := by decide +kernel
theorem dX8_lay_83 : decode cX8_lay 83 = .ok (.if_icmp .ge 80, 3) := by decide +kernel
theorem dX8_lay_86 : decode cX8_lay 86 = .ok (.iload_n 3, 1) := by decide +kernel
theorem dX8_lay_87 : decode cX8_lay 87 = .ok (.ifCond .ne 14, 3) := by decide +kernel
theorem dX8_lay_90 : decode cX8_lay 90 = .ok (.aload_n 0, 1) := by decide +kernel
theorem dX8_lay_91 : decode cX8_lay 91 = .ok (.getfield 75, 3) := by decide +kernel
theorem dX8_lay_94 : decode cX8_lay 94 = .ok (.iload 4, 2) := by decide +kernel
theorem dX8_lay_96 : decode cX8_lay 96 = .ok (.iaload, 1) := by decide +kernel
theorem dX8_lay_97 : decode cX8_lay 97 = .ok (.iload_n 2, 1) := by decide +kernel
theorem dX8_lay_98 : decode cX8_lay 98 = .ok (.if_icmp .le 7, 3) := by decide +kernel
theorem dX8_lay_101 : decode cX8_lay 101 = .ok (.iconst 1, 1) := by decide +kernel
theorem dX8_lay_102 : decode cX8_lay 102 = .ok (.goto 4, 3) := by decide +kernel
theorem dX8_lay_105 : decode cX8_lay 105 = .ok (.iconst 0, 1) := by decide +kernel
theorem dX8_lay_106 : decode cX8_lay 106 = .ok (.istore_n 3, 1) := by decide +kernel
theorem dX8_lay_107 : decode cX8_lay 107 = .ok (.iload_n 2, 1) := by decide +kernel
theorem dX8_lay_108 : decode cX8_lay 108 = .ok (.aload_n 0, 1) := by decide +kernel
theorem dX8_lay_109 : decode cX8_lay 109 = .ok (.getfield 24, 3) := by decide +kernel
theorem dX8_lay_112 : decode cX8_lay 112 = .ok (.aload_n 0, 1) := by decide +kernel
theorem dX8_lay_113 : decode cX8_lay 113 = .ok (.getfield 36, 3) := by decide +kernel
theorem dX8_lay_116 : decode cX8_lay 116 = .ok (.iload 5, 2) := by decide +kernel
theorem dX8_lay_118 : decode cX8_lay 118 = .ok (.iaload, 1) := by decide +kernel
theorem dX8_lay_119 : decode cX8_lay 119 = .ok (.iaload, 1) := by decide +kernel
theorem dX8_lay_120 : decode cX8_lay 120 = .ok (.iadd, 1) := by decide +kernel
theorem dX8_lay_121 : decode cX8_lay 121 = .ok (.istore 7, 2) := by decide +kernel
theorem dX8_lay_123 : decode cX8_lay 123 = .ok (.aload_n 0, 1) := by decide +kernel
theorem dX8_lay_124 : decode cX8_lay 124 = .ok (.getfield 75, 3) := by decide +kernel
theorem dX8_lay_127 : decode cX8_lay 127 = .ok (.iload 4, 2) := by decide +kernel
theorem dX8_lay_129 : decode cX8_lay 129 = .ok (.iload 7, 2) := by decide +kernel
theorem dX8_lay_131 : decode cX8_lay 131 = .ok (.aload_n 0, 1) := by decide +kernel
theorem dX8_lay_132 : decode cX8_lay 132 = .ok (.getfield 75, 3) := by decide +kernel
theorem dX8_lay_135 : decode cX8_lay 135 = .ok (.iload 4, 2) := by decide +kernel
theorem dX8_lay_137 : decode cX8_lay 137 = .ok (.iaload, 1) := by decide +kernel
theorem dX8_lay_138 : decode cX8_lay 138 = .ok (.if_icmp .le 8, 3) := by decide +kernel
theorem dX8_lay_141 : decode cX8_lay 141 = .ok (.iload 7, 2) := by decide +kernel
theorem dX8_lay_143 : decode cX8_lay 143 = .ok (.goto 10, 3) := by decide +kernel
theorem dX8_lay_146 : decode cX8_lay 146 = .ok (.aload_n 0, 1) := by decide +kernel
theorem dX8_lay_147 : decode cX8_lay 147 = .ok (.getfield 75, 3) := by decide +kernel
theorem dX8_lay_150 : decode cX8_lay 150 = .ok (.iload 4, 2) := by decide +kernel
theorem dX8_lay_152 : decode cX8_lay 152 = .ok (.iaload, 1) := by decide +kernel
theorem dX8_lay_153 : decode cX8_lay 153 = .ok (.iastore, 1) := by decide +kernel
theorem dX8_lay_154 : decode cX8_lay 154 = .ok (.iinc 4 1, 3) := by decide +kernel
theorem dX8_lay_157 : decode cX8_lay 157 = .ok (.iinc 6 1, 3) := by decide +kernel
theorem dX8_lay_160 : decode cX8_lay 160 = .ok (.goto (-91), 3) := by decide +kernel
theorem dX8_lay_163 : decode cX8_lay 163 = .ok (.aload_n 0, 1) := by decide +kernel
theorem dX8_lay_164 : decode cX8_lay 164 = .ok (.iload_n 1, 1) := by decide +kernel
theorem dX8_lay_165 : decode cX8_lay 165 = .ok (.iload 5, 2) := by decide +kernel
theorem dX8_lay_167 : decode cX8_lay 167 = .ok (.iconst 1, 1) := by decide +kernel
theorem dX8_lay_168 : decode cX8_lay 168 = .ok (.iadd, 1) := by decide +kernel
theorem dX8_lay_169 : decode cX8_lay 169 = .ok (.invokevirtual 125, 3) := by decide +kernel
theorem dX8_lay_172 : decode cX8_lay 172 = .ok (.istore 5, 2) := by decide +kernel
theorem dX8_lay_174 : decode cX8_lay 174 = .ok (.goto (-161), 3) := by decide +kernel
theorem dX8_lay_177 : decode cX8_lay 177 = .ok (.iload_n 3, 1) := by decide +kernel
theorem dX8_lay_178 : decode cX8_lay 178 = .ok (.ireturn, 1) := by decide +kernel
theorem dX8_isUneven_0 : decode cX8_isUneven 0 = .ok (.iconst 0, 1) := by decide +kernel
theorem dX8_isUneven_1 : decode cX8_isUneven 1 = .ok (.istore_n 2, 1) := by decide +kernel
theorem dX8_isUneven_2 : decode cX8_isUneven 2 = .ok (.iload_n 2, 1) := by decide +kernel
theorem dX8_isUneven_3 : decode cX8_isUneven 3 = .ok (.sipush 500, 3) := by decide +kernel
theorem dX8_isUneven_6 : decode cX8_isUneven 6 = .ok (.if_icmp .ge 16, 3) := by decide +kernel
theorem dX8_isUneven_9 : decode cX8_isUneven 9 = .ok (.aload_n 0, 1) := by decide +kernel
theorem dX8_isUneven_10 : decode cX8_isUneven 10 = .ok (.getfield 75, 3) := by decide +kernel
theorem dX8_isUneven_13 : decode cX8_isUneven 13 = .ok (.iload_n 2, 1) := by decide +kernel
theorem dX8_isUneven_14 : decode cX8_isUneven 14 = .ok (.iconst 0, 1) := by decide +kernel
theorem dX8_isUneven_15 : decode cX8_isUneven 15 = .ok (.iastore, 1) := by decide +kernel
theorem dX8_isUneven_16 : decode cX8_isUneven 16 = .ok (.iinc 2 1, 3) := by decide +kernel
theorem dX8_isUneven_19 : decode cX8_isUneven 19 = .ok (.goto (-17), 3) := by decide +kernel
theorem dX8_isUneven_22 : decode cX8_isUneven 22 = .ok (.iconst 0, 1) := by decide +kernel
theorem dX8_isUneven_23 : decode cX8_isUneven 23 = .ok (.istore_n 2, 1) := by decide +kernel
theorem dX8_isUneven_24 : decode cX8_isUneven 24 = .ok (.iconst 0, 1) := by decide +kernel
theorem dX8_isUneven_25 : decode cX8_isUneven 25 = .ok (.istore_n 3, 1) := by decide +kernel
theorem dX8_isUneven_26 : decode cX8_isUneven 26 = .ok (.iconst 0, 1) := by decide +kernel
theorem dX8_isUneven_27 : decode cX8_isUneven 27 = .ok (.istore 4, 2) := by decide +kernel
theorem dX8_isUneven_29 : decode cX8_isUneven 29 = .ok (.aload_n 0, 1) := by decide +kernel
theorem dX8_isUneven_30 : decode cX8_isUneven 30 = .ok (.iload_n 1, 1) := by decide +kernel
theorem dX8_isUneven_31 : decode cX8_isUneven 31 = .ok (.iconst 0, 1) := by decide +kernel
theorem dX8_isUneven_32 : decode cX8_isUneven 32 = .ok (.invokevirtual 125, 3) := by decide +kernel
theorem dX8_isUneven_35 : decode cX8_isUneven 35 = .ok (.istore 5, 2) := by decide +kernel
theorem dX8_isUneven_37 : decode cX8_isUneven 37 = .ok (.iload 5, 2) := by decide +kernel
theorem dX8_isUneven_39 : decode cX8_isUneven 39 = .ok (.aload_n 0, 1) := by decide +kernel
theorem dX8_isUneven_40 : decode cX8_isUneven 40 = .ok (.getfield 89, 3) := by decide +kernel
theorem dX8_isUneven_43 : decode cX8_isUneven 43 = .ok (.if_icmp .ge 135, 3) := by decide +kernel
theorem dX8_isUneven_46 : decode cX8_isUneven 46 = .ok (.aload_n 0, 1) := by decide +kernel
theorem dX8_isUneven_47 : decode cX8_isUneven 47 = .ok (.getfield 36, 3) := by decide +kernel
theorem dX8_isUneven_50 : decode cX8_isUneven 50 = .ok (.iload 5, 2) := by decide +kernel
theorem dX8_isUneven_52 : decode cX8_isUneven 52 = .ok (.iaload, 1) := by decide +kernel
theorem dX8_isUneven_53 : decode cX8_isUneven 53 = .ok (.sipush 1000, 3) := by decide +kernel
theorem dX8_isUneven_56 : decode cX8_isUneven 56 = .ok (.if_icmp .ge 108, 3) := by decide +kernel
theorem dX8_isUneven_59 : decode cX8_isUneven 59 = .ok (.aload_n 0, 1) := by decide +kernel
theorem dX8_isUneven_60 : decode cX8_isUneven 60 = .ok (.aload_n 0, 1) := by decide +kernel
theorem dX8_isUneven_61 : decode cX8_isUneven 61 = .ok (.getfield 36, 3) := by decide +kernel
theorem dX8_isUneven_64 : decode cX8_isUneven 64 = .ok (.iload 5, 2) := by decide +kernel
theorem dX8_isUneven_66 : decode cX8_isUneven 66 = .ok (.iaload, 1) := by decide +kernel
theorem dX8_isUneven_67 : decode cX8_isUneven 67 = .ok (.bipush 7, 2) := by decide +kernel
theorem dX8_isUneven_69 : decode cX8_isUneven 69 = .ok (.invokevirtual 129, 3) := by decide +kernel
theorem dX8_isUneven_72 : decode cX8_isUneven 72 = .ok (.ifCond .eq 92, 3) := by decide +kernel
theorem dX8_isUneven_75 : decode cX8_isUneven 75 = .ok (.aload_n 0, 1) := by decide +kernel
theorem dX8_isUneven_76 : decode cX8_isUneven 76 = .ok (.aload_n 0, 1) := by decide +kernel
theorem dX8_isUneven_77 : decode cX8_isUneven 77 = .ok (.getfield 36, 3) := by decide +kernel
theorem dX8_isUneven_80 : decode cX8_isUneven 80 = .ok (.iload 5, 2) := by decide +kernel
theorem dX8_isUneven_82 : decode cX8_isUneven 82 = .ok (.iaload, 1) := by decide +kernel
theorem dX8_isUneven_83 : decode cX8_isUneven 83 = .ok (.iload_n 3, 1) := by decide +kernel
theorem dX8_isUneven_84 : decode cX8_isUneven 84 = .ok (.invokevirtual 154, 3) := by decide +kernel
theorem dX8_isUneven_87 : decode cX8_isUneven 87 = .ok (.istore 6, 2) := by decide +kernel
theorem dX8_isUneven_89 : decode cX8_isUneven 89 = .ok (.iconst 0, 1) := by decide +kernel
theorem dX8_isUneven_90 : decode cX8_isUneven 90 = .ok (.istore 7, 2) := by decide +kernel
theorem dX8_isUneven_92 : decode cX8_isUneven 92 = .ok (.iconst 0, 1) := by decide +kernel
theorem dX8_isUneven_93 : decode cX8_isUneven 93 = .ok (.istore 8, 2) := by decide +kernel
theorem dX8_isUneven_95 : decode cX8_isUneven 95 = .ok (.iload 8, 2) := by decide +kernel
theorem dX8_isUneven_97 : decode cX8_isUneven 97 = .ok (.sipush 500, 3) := by decide +kernel
theorem dX8_isUneven_100 : decode cX8_isUneven 100 = .ok (.if_icmp .ge 31, 3) := by decide +kernel
theorem dX8_isUneven_103 : decode cX8_isUneven 103 = .ok (.aload_n 0, 1) := by decide +kernel
theorem dX8_isUneven_104 : decode cX8_isUneven 104 = .ok (.getfield 75, 3) := by decide +kernel
theorem dX8_isUneven_107 : decode cX8_isUneven 107 = .ok (.iload 8, 2) := by decide +kernel
theorem dX8_isUneven_109 : decode cX8_isUneven 109 = .ok (.iaload, 1) := by decide +kernel
theorem dX8_isUneven_110 : decode cX8_isUneven 110 = .ok (.iload_n 3, 1) := by decide +kernel
theorem dX8_isUneven_111 : decode cX8_isUneven 111 = .ok (.if_icmp .le 10, 3) := by decide +kernel
theorem dX8_isUneven_114 : decode cX8_isUneven 114 = .ok (.iload 8, 2) := by decide +kernel
theorem dX8_isUneven_116 : decode cX8_isUneven 116 = .ok (.iconst 1, 1) := by decide +kernel
theorem dX8_isUneven_117 : decode cX8_isUneven 117 = .ok (.iadd, 1) := by decide +kernel
theorem dX8_isUneven_118 : decode cX8_isUneven 118 = .ok (.goto 5, 3) := by decide +kernel
theorem dX8_isUneven_121 : decode cX8_isUneven 121 = .ok (.iload 7, 2) := by decide +kernel
theorem dX8_isUneven_123 : decode cX8_isUneven 123 = .ok (.istore 7, 2) := by decide +kernel
theorem dX8_isUneven_125 : decode cX8_isUneven 125 = .ok (.iinc 8 1, 3) := by decide +kernel
theorem dX8_isUneven_128 : decode cX8_isUneven 128 = .ok (.goto (-33), 3) := by decide +kernel
theorem dX8_isUneven_131 : decode cX8_isUneven 131 = .ok (.iload_n 2, 1) := by decide +kernel
theorem dX8_isUneven_132 : decode cX8_isUneven 132 = .ok (.ifCond .ne 19, 3) := by decide +kernel
theorem dX8_isUneven_135 : decode cX8_isUneven 135 = .ok (.iload 6, 2) := by decide +kernel
theorem dX8_isUneven_137 : decode cX8_isUneven 137 = .ok (.ifCond .ne 14, 3) := by decide +kernel
theorem dX8_isUneven_140 : decode cX8_isUneven 140 = .ok (.iload_n 3, 1) := by decide +kernel
theorem dX8_isUneven_141 : decode cX8_isUneven 141 = .ok (.ifCond .le 14, 3) := by decide +kernel
theorem dX8_isUneven_144 : decode cX8_isUneven 144 = .ok (.iload 7, 2) := by decide +kernel
theorem dX8_isUneven_146 : decode cX8_isUneven 146 = .ok (.iload 4, 2) := by decide +kernel
theorem dX8_isUneven_148 : decode cX8_isUneven 148 = .ok (.if_icmp .eq 7, 3) := by decide +kernel
theorem dX8_isUneven_151 : decode cX8_isUneven 151 = .ok (.iconst 1, 1) := by decide +kernel
theorem dX8_isUneven_152 : decode cX8_isUneven 152 = .ok (.goto 4, 3) := by decide +kernel
theorem dX8_isUneven_155 : decode cX8_isUneven 155 = .ok (.iconst 0, 1) := by decide +kernel
theorem dX8_isUneven_156 : decode cX8_isUneven 156 = .ok (.istore_n 2, 1) := by decide +kernel
theorem dX8_isUneven_157 : decode cX8_isUneven 157 = .ok (.iload 7, 2) := by decide +kernel
theorem dX8_isUneven_159 : decode cX8_isUneven 159 = .ok (.istore 4, 2) := by decide +kernel
theorem dX8_isUneven_161 : decode cX8_isUneven 161 = .ok (.iinc 3 1, 3) := by decide +kernel
theorem dX8_isUneven_164 : decode cX8_isUneven 164 = .ok (.aload_n 0, 1) := by decide +kernel
theorem dX8_isUneven_165 : decode cX8_isUneven 165 = .ok (.iload_n 1, 1) := by decide +kernel
theorem dX8_isUneven_166 : decode cX8_isUneven 166 = .ok (.iload 5, 2) := by decide +kernel
theorem dX8_isUneven_168 : decode cX8_isUneven 168 = .ok (.iconst 1, 1) := by decide +kernel
theorem dX8_isUneven_169 : decode cX8_isUneven 169 = .ok (.iadd, 1) := by decide +kernel
theorem dX8_isUneven_170 : decode cX8_isUneven 170 = .ok (.invokevirtual 125, 3) := by decide +kernel
theorem dX8_isUneven_173 : decode cX8_isUneven 173 = .ok (.istore 5, 2) := by decide +kernel
theorem dX8_isUneven_175 : decode cX8_isUneven 175 = .ok (.goto (-138), 3) := by decide +kernel
theorem dX8_isUneven_178 : decode cX8_isUneven 178 = .ok (.iload_n 2, 1) := by decide +kernel
theorem dX8_isUneven_179 : decode cX8_isUneven 179 = .ok (.ireturn, 1) := by decide +kernel
theorem dX8_hasFault_0 : decode cX8_hasFault 0 = .ok (.iload_n 2, 1) := by decide +kernel
theorem dX8_hasFault_1 : decode cX8_hasFault 1 = .ok (.iconst 1, 1) := by decide +kernel
theorem dX8_hasFault_2 : decode cX8_hasFault 2 = .ok (.if_icmp .ne 23, 3) := by decide +kernel
theorem dX8_hasFault_5 : decode cX8_hasFault 5 = .ok (.aload_n 0, 1) := by decide +kernel
theorem dX8_hasFault_6 : decode cX8_hasFault 6 = .ok (.aload_n 0, 1) := by decide +kernel
theorem dX8_hasFault_7 : decode cX8_hasFault 7 = .ok (.getfield 13, 3) := by decide +kernel
theorem dX8_hasFault_10 : decode cX8_hasFault 10 = .ok (.iload_n 1, 1) := by decide +kernel
theorem dX8_hasFault_11 : decode cX8_hasFault 11 = .ok (.iaload, 1) := by decide +kernel
theorem dX8_hasFault_12 : decode cX8_hasFault 12 = .ok (.invokevirtual 115, 3) := by decide +kernel
theorem dX8_hasFault_15 : decode cX8_hasFault 15 = .ok (.iconst (-1), 1) := by decide +kernel
theorem dX8_hasFault_16 : decode cX8_hasFault 16 = .ok (.if_icmp .ne 7, 3) := by decide +kernel
theorem dX8_hasFault_19 : decode cX8_hasFault 19 = .ok (.iconst 1, 1) := by decide +kernel
theorem dX8_hasFault_20 : decode cX8_hasFault 20 = .ok (.goto 4, 3) := by decide +kernel
theorem dX8_hasFault_23 : decode cX8_hasFault 23 = .ok (.iconst 0, 1) := by decide +kernel
theorem dX8_hasFault_24 : decode cX8_hasFault 24 = .ok (.ireturn, 1) := by decide +kernel
theorem dX8_hasFault_25 : decode cX8_hasFault 25 = .ok (.iload_n 2, 1) := by decide +kernel
theorem dX8_hasFault_26 : decode cX8_hasFault 26 = .ok (.iconst 2, 1) := by decide +kernel
theorem dX8_hasFault_27 : decode cX8_hasFault 27 = .ok (.if_icmp .ne 27, 3) := by decide +kernel
theorem dX8_hasFault_30 : decode cX8_hasFault 30 = .ok (.aload_n 0, 1) := by decide +kernel
theorem dX8_hasFault_31 : decode cX8_hasFault 31 = .ok (.iload_n 1, 1) := by decide +kernel
theorem dX8_hasFault_32 : decode cX8_hasFault 32 = .ok (.iconst 2, 1) := by decide +kernel
theorem dX8_hasFault_33 : decode cX8_hasFault 33 = .ok (.invokevirtual 129, 3) := by decide +kernel
theorem dX8_hasFault_36 : decode cX8_hasFault 36 = .ok (.ifCond .eq 16, 3) := by decide +kernel
theorem dX8_hasFault_39 : decode cX8_hasFault 39 = .ok (.aload_n 0, 1) := by decide +kernel
theorem dX8_hasFault_40 : decode cX8_hasFault 40 = .ok (.getfield 17, 3) := by decide +kernel
theorem dX8_hasFault_43 : decode cX8_hasFault 43 = .ok (.iload_n 1, 1) := by decide +kernel
theorem dX8_hasFault_44 : decode cX8_hasFault 44 = .ok (.iaload, 1) := by decide +kernel
theorem dX8_hasFault_45 : decode cX8_hasFault 45 = .ok (.ifCond .ne 7, 3) := by decide +kernel
theorem dX8_hasFault_48 : decode cX8_hasFault 48 = .ok (.iconst 1, 1) := by decide +kernel
theorem dX8_hasFault_49 : decode cX8_hasFault 49 = .ok (.goto 4, 3) := by decide +kernel
theorem dX8_hasFault_52 : decode cX8_hasFault 52 = .ok (.iconst 0, 1) := by decide +kernel
theorem dX8_hasFault_53 : decode cX8_hasFault 53 = .ok (.ireturn, 1) := by decide +kernel
theorem dX8_hasFault_54 : decode cX8_hasFault 54 = .ok (.iload_n 2, 1) := by decide +kernel
theorem dX8_hasFault_55 : decode cX8_hasFault 55 = .ok (.iconst 4, 1) := by decide +kernel
theorem dX8_hasFault_56 : decode cX8_hasFault 56 = .ok (.if_icmp .ne 17, 3) := by decide +kernel
theorem dX8_hasFault_59 : decode cX8_hasFault 59 = .ok (.aload_n 0, 1) := by decide +kernel
theorem dX8_hasFault_60 : decode cX8_hasFault 60 = .ok (.iload_n 1, 1) := by decide +kernel
theorem dX8_hasFault_61 : decode cX8_hasFault 61 = .ok (.invokevirtual 157, 3) := by decide +kernel
theorem dX8_hasFault_64 : decode cX8_hasFault 64 = .ok (.ifCond .ne 7, 3) := by decide +kernel
theorem dX8_hasFault_67 : decode cX8_hasFault 67 = .ok (.iconst 1, 1) := by decide +kernel
theorem dX8_hasFault_68 : decode cX8_hasFault 68 = .ok (.goto 4, 3) := by decide +kernel
theorem dX8_hasFault_71 : decode cX8_hasFault 71 = .ok (.iconst 0, 1) := by decide +kernel
theorem dX8_hasFault_72 : decode cX8_hasFault 72 = .ok (.ireturn, 1) := by decide +kernel
theorem dX8_hasFault_73 : decode cX8_hasFault 73 = .ok (.iload_n 2, 1) := by decide +kernel
theorem dX8_hasFault_74 : decode cX8_hasFault 74 = .ok (.iconst 5, 1) := by decide +kernel
theorem dX8_hasFault_75 : decode cX8_hasFault 75 = .ok (.if_icmp .ne 27, 3) := by decide +kernel
theorem dX8_hasFault_78 : decode cX8_hasFault 78 = .ok (.aload_n 0, 1) := by decide +kernel
theorem dX8_hasFault_79 : decode cX8_hasFault 79 = .ok (.iload_n 1, 1) := by decide +kernel
theorem dX8_hasFault_80 : decode cX8_hasFault 80 = .ok (.bipush 6, 2) := by decide +kernel
theorem dX8_hasFault_82 : decode cX8_hasFault 82 = .ok (.invokevirtual 129, 3) := by decide +kernel
theorem dX8_hasFault_85 : decode cX8_hasFault 85 = .ok (.ifCond .eq 15, 3) := by decide +kernel
theorem dX8_hasFault_88 : decode cX8_hasFault 88 = .ok (.aload_n 0, 1) := by decide +kernel
theorem dX8_hasFault_89 : decode cX8_hasFault 89 = .ok (.iload_n 1, 1) := by decide +kernel
theorem dX8_hasFault_90 : decode cX8_hasFault 90 = .ok (.invokevirtual 160, 3) := by decide +kernel
theorem dX8_hasFault_93 : decode cX8_hasFault 93 = .ok (.ifCond .eq 7, 3) := by decide +kernel
theorem dX8_hasFault_96 : decode cX8_hasFault 96 = .ok (.iconst 1, 1) := by decide +kernel
theorem dX8_hasFault_97 : decode cX8_hasFault 97 = .ok (.goto 4, 3) := by decide +kernel
theorem dX8_hasFault_100 : decode cX8_hasFault 100 = .ok (.iconst 0, 1) := by decide +kernel
theorem dX8_hasFault_101 : decode cX8_hasFault 101 = .ok (.ireturn, 1) := by decide +kernel
theorem dX8_hasFault_102 : decode cX8_hasFault 102 = .ok (.iload_n 2, 1) := by decide +kernel
theorem dX8_hasFault_103 : decode cX8_hasFault 103 = .ok (.bipush 6, 2) := by decide +kernel
theorem dX8_hasFault_105 : decode cX8_hasFault 105 = .ok (.if_icmp .ne 28, 3) := by decide +kernel
theorem dX8_hasFault_108 : decode cX8_hasFault 108 = .ok (.aload_n 0, 1) := by decide +kernel
theorem dX8_hasFault_109 : decode cX8_hasFault 109 = .ok (.iload_n 1, 1) := by decide +kernel
theorem dX8_hasFault_110 : decode cX8_hasFault 110 = .ok (.bipush 10, 2) := by decide +kernel
theorem dX8_hasFault_112 : decode cX8_hasFault 112 = .ok (.invokevirtual 129, 3) := by decide +kernel
theorem dX8_hasFault_115 : decode cX8_hasFault 115 = .ok (.ifCond .eq 16, 3) := by decide +kernel
theorem dX8_hasFault_118 : decode cX8_hasFault 118 = .ok (.aload_n 0, 1) := by decide +kernel
theorem dX8_hasFault_119 : decode cX8_hasFault 119 = .ok (.getfield 20, 3) := by decide +kernel
theorem dX8_hasFault_122 : decode cX8_hasFault 122 = .ok (.iload_n 1, 1) := by decide +kernel
theorem dX8_hasFault_123 : decode cX8_hasFault 123 = .ok (.baload, 1) := by decide +kernel
theorem dX8_hasFault_124 : decode cX8_hasFault 124 = .ok (.ifCond .ne 7, 3) := by decide +kernel
theorem dX8_hasFault_127 : decode cX8_hasFault 127 = .ok (.iconst 1, 1) := by decide +kernel
theorem dX8_hasFault_128 : decode cX8_hasFault 128 = .ok (.goto 4, 3) := by decide +kernel
theorem dX8_hasFault_131 : decode cX8_hasFault 131 = .ok (.iconst 0, 1) := by decide +kernel
theorem dX8_hasFault_132 : decode cX8_hasFault 132 = .ok (.ireturn, 1) := by decide +kernel
theorem dX8_hasFault_133 : decode cX8_hasFault 133 = .ok (.iload_n 1, 1) := by decide +kernel
theorem dX8_hasFault_134 : decode cX8_hasFault 134 = .ok (.ifCond .le 30, 3) := by decide +kernel
theorem dX8_hasFault_137 : decode cX8_hasFault 137 = .ok (.aload_n 0, 1) := by decide +kernel
theorem dX8_hasFault_138 : decode cX8_hasFault 138 = .ok (.iload_n 1, 1) := by decide +kernel
theorem dX8_hasFault_139 : decode cX8_hasFault 139 = .ok (.bipush 10, 2) := by decide +kernel
theorem dX8_hasFault_141 : decode cX8_hasFault 141 = .ok (.invokevirtual 129, 3) := by decide +kernel
theorem dX8_hasFault_144 : decode cX8_hasFault 144 = .ok (.ifCond .ne 20, 3) := by decide +kernel
theorem dX8_hasFault_147 : decode cX8_hasFault 147 = .ok (.aload_n 0, 1) := by decide +kernel
theorem dX8_hasFault_148 : decode cX8_hasFault 148 = .ok (.iload_n 1, 1) := by decide +kernel
theorem dX8_hasFault_149 : decode cX8_hasFault 149 = .ok (.iconst 0, 1) := by decide +kernel
theorem dX8_hasFault_150 : decode cX8_hasFault 150 = .ok (.invokevirtual 125, 3) := by decide +kernel
theorem dX8_hasFault_153 : decode cX8_hasFault 153 = .ok (.aload_n 0, 1) := by decide +kernel
theorem dX8_hasFault_154 : decode cX8_hasFault 154 = .ok (.getfield 89, 3) := by decide +kernel
theorem dX8_hasFault_157 : decode cX8_hasFault 157 = .ok (.if_icmp .ne 7, 3) := by decide +kernel
theorem dX8_hasFault_160 : decode cX8_hasFault 160 = .ok (.iconst 1, 1) := by decide +kernel
theorem dX8_hasFault_161 : decode cX8_hasFault 161 = .ok (.goto 4, 3) := by decide +kernel
theorem dX8_hasFault_164 : decode cX8_hasFault 164 = .ok (.iconst 0, 1) := by decide +kernel
theorem dX8_hasFault_165 : decode cX8_hasFault 165 = .ok (.ireturn, 1) := by decide +kernel
theorem dX8_addJumps_0 : decode cX8_addJumps 0 = .ok (.iconst 0, 1) := by decide +kernel
theorem dX8_addJumps_1 : decode cX8_addJumps 1 = .ok (.istore_n 1, 1) := by decide +kernel
theorem dX8_addJumps_2 : decode cX8_addJumps 2 = .ok (.iconst 0, 1) := by decide +kernel
theorem dX8_addJumps_3 : decode cX8_addJumps 3 = .ok (.istore_n 2, 1) := by decide +kernel
theorem dX8_addJumps_4 : decode cX8_addJumps 4 = .ok (.iload_n 2, 1) := by decide +kernel
theorem dX8_addJumps_5 : decode cX8_addJumps 5 = .ok (.aload_n 0, 1) := by decide +kernel
theorem dX8_addJumps_6 : decode cX8_addJumps 6 = .ok (.getfield 132, 3) := by decide +kernel
theorem dX8_addJumps_9 : decode cX8_addJumps 9 = .ok (.if_icmp .ge 42, 3) := by decide +kernel
theorem dX8_addJumps_12 : decode cX8_addJumps 12 = .ok (.aload_n 0, 1) := by decide +kernel
theorem dX8_addJumps_13 : decode cX8_addJumps 13 = .ok (.getfield 17, 3) := by decide +kernel
theorem dX8_addJumps_16 : decode cX8_addJumps 16 = .ok (.aload_n 0, 1) := by decide +kernel
theorem dX8_addJumps_17 : decode cX8_addJumps 17 = .ok (.getfield 60, 3) := by decide +kernel
theorem dX8_addJumps_20 : decode cX8_addJumps 20 = .ok (.iload_n 2, 1) := by decide +kernel
theorem dX8_addJumps_21 : decode cX8_addJumps 21 = .ok (.iaload, 1) := by decide +kernel
theorem dX8_addJumps_22 : decode cX8_addJumps 22 = .ok (.iaload, 1) := by decide +kernel
theorem dX8_addJumps_23 : decode cX8_addJumps 23 = .ok (.istore_n 3, 1) := by decide +kernel
theorem dX8_addJumps_24 : decode cX8_addJumps 24 = .ok (.iload_n 3, 1) := by decide +kernel
theorem dX8_addJumps_25 : decode cX8_addJumps 25 = .ok (.iload_n 1, 1) := by decide +kernel
theorem dX8_addJumps_26 : decode cX8_addJumps 26 = .ok (.iconst 1, 1) := by decide +kernel
theorem dX8_addJumps_27 : decode cX8_addJumps 27 = .ok (.iadd, 1) := by decide +kernel
theorem dX8_addJumps_28 : decode cX8_addJumps 28 = .ok (.if_icmp .le 15, 3) := by decide +kernel
theorem dX8_addJumps_31 : decode cX8_addJumps 31 = .ok (.aload_n 0, 1) := by decide +kernel
theorem dX8_addJumps_32 : decode cX8_addJumps 32 = .ok (.iconst 3, 1) := by decide +kernel
theorem dX8_addJumps_33 : decode cX8_addJumps 33 = .ok (.aload_n 0, 1) := by decide +kernel
theorem dX8_addJumps_34 : decode cX8_addJumps 34 = .ok (.getfield 60, 3) := by decide +kernel
theorem dX8_addJumps_37 : decode cX8_addJumps 37 = .ok (.iload_n 2, 1) := by decide +kernel
theorem dX8_addJumps_38 : decode cX8_addJumps 38 = .ok (.iaload, 1) := by decide +kernel
theorem dX8_addJumps_39 : decode cX8_addJumps 39 = .ok (.iload_n 3, 1) := by decide +kernel
theorem dX8_addJumps_40 : decode cX8_addJumps 40 = .ok (.invokevirtual 163, 3) := by decide +kernel
theorem dX8_addJumps_43 : decode cX8_addJumps 43 = .ok (.iload_n 3, 1) := by decide +kernel
theorem dX8_addJumps_44 : decode cX8_addJumps 44 = .ok (.istore_n 1, 1) := by decide +kernel
theorem dX8_addJumps_45 : decode cX8_addJumps 45 = .ok (.iinc 2 1, 3) := by decide +kernel
theorem dX8_addJumps_48 : decode cX8_addJumps 48 = .ok (.goto (-44), 3) := by decide +kernel
theorem dX8_addJumps_51 : decode cX8_addJumps 51 = .ok (.return_, 1) := by decide +kernel
theorem dX8_addOrder_0 : decode cX8_addOrder 0 = .ok (.iconst 0, 1) := by decide +kernel
theorem dX8_addOrder_1 : decode cX8_addOrder 1 = .ok (.istore_n 1, 1) := by decide +kernel
theorem dX8_addOrder_2 : decode cX8_addOrder 2 = .ok (.iload_n 1, 1) := by decide +kernel
theorem dX8_addOrder_3 : decode cX8_addOrder 3 = .ok (.aload_n 0, 1) := by decide +kernel
theorem dX8_addOrder_4 : decode cX8_addOrder 4 = .ok (.getfield 118, 3) := by decide +kernel
theorem dX8_addOrder_7 : decode cX8_addOrder 7 = .ok (.if_icmp .ge 155, 3) := by decide +kernel
theorem dX8_addOrder_10 : decode cX8_addOrder 10 = .ok (.aload_n 0, 1) := by decide +kernel
theorem dX8_addOrder_11 : decode cX8_addOrder 11 = .ok (.getfield 48, 3) := by decide +kernel
theorem dX8_addOrder_14 : decode cX8_addOrder 14 = .ok (.iload_n 1, 1) := by decide +kernel
theorem dX8_addOrder_15 : decode cX8_addOrder 15 = .ok (.iaload, 1) := by decide +kernel
theorem dX8_addOrder_16 : decode cX8_addOrder 16 = .ok (.sipush 1000, 3) := by decide +kernel
theorem dX8_addOrder_19 : decode cX8_addOrder 19 = .ok (.isub, 1) := by decide +kernel
theorem dX8_addOrder_20 : decode cX8_addOrder 20 = .ok (.istore_n 2, 1) := by decide +kernel
theorem dX8_addOrder_21 : decode cX8_addOrder 21 = .ok (.iload_n 2, 1) := by decide +kernel
theorem dX8_addOrder_22 : decode cX8_addOrder 22 = .ok (.ifCond .lt 134, 3) := by decide +kernel
theorem dX8_addOrder_25 : decode cX8_addOrder 25 = .ok (.aload_n 0, 1) := by decide +kernel
theorem dX8_addOrder_26 : decode cX8_addOrder 26 = .ok (.iload_n 2, 1) := by decide +kernel
theorem dX8_addOrder_27 : decode cX8_addOrder 27 = .ok (.invokevirtual 112, 3) := by decide +kernel
theorem dX8_addOrder_30 : decode cX8_addOrder 30 = .ok (.ifCond .le 126, 3) := by decide +kernel
theorem dX8_addOrder_33 : decode cX8_addOrder 33 = .ok (.iconst 0, 1) := by decide +kernel
theorem dX8_addOrder_34 : decode cX8_addOrder 34 = .ok (.istore_n 3, 1) := by decide +kernel
theorem dX8_addOrder_35 : decode cX8_addOrder 35 = .ok (.iconst 0, 1) := by decide +kernel
theorem dX8_addOrder_36 : decode cX8_addOrder 36 = .ok (.istore 4, 2) := by decide +kernel
theorem dX8_addOrder_38 : decode cX8_addOrder 38 = .ok (.iload 4, 2) := by decide +kernel
theorem dX8_addOrder_40 : decode cX8_addOrder 40 = .ok (.iload_n 1, 1) := by decide +kernel
theorem dX8_addOrder_41 : decode cX8_addOrder 41 = .ok (.if_icmp .ge 93, 3) := by decide +kernel
theorem dX8_addOrder_44 : decode cX8_addOrder 44 = .ok (.aload_n 0, 1) := by decide +kernel
theorem dX8_addOrder_45 : decode cX8_addOrder 45 = .ok (.getfield 48, 3) := by decide +kernel
theorem dX8_addOrder_48 : decode cX8_addOrder 48 = .ok (.iload 4, 2) := by decide +kernel
theorem dX8_addOrder_50 : decode cX8_addOrder 50 = .ok (.iaload, 1) := by decide +kernel
theorem dX8_addOrder_51 : decode cX8_addOrder 51 = .ok (.sipush 1000, 3) := by decide +kernel
theorem dX8_addOrder_54 : decode cX8_addOrder 54 = .ok (.if_icmp .lt 46, 3) := by decide +kernel
theorem dX8_addOrder_57 : decode cX8_addOrder 57 = .ok (.aload_n 0, 1) := by decide +kernel
theorem dX8_addOrder_58 : decode cX8_addOrder 58 = .ok (.getfield 48, 3) := by decide +kernel
theorem dX8_addOrder_61 : decode cX8_addOrder 61 = .ok (.iload 4, 2) := by decide +kernel
theorem dX8_addOrder_63 : decode cX8_addOrder 63 = .ok (.iaload, 1) := by decide +kernel
theorem dX8_addOrder_64 : decode cX8_addOrder 64 = .ok (.sipush 1000, 3) := by decide +kernel
theorem dX8_addOrder_67 : decode cX8_addOrder 67 = .ok (.isub, 1) := by decide +kernel
theorem dX8_addOrder_68 : decode cX8_addOrder 68 = .ok (.bipush 20, 2) := by decide +kernel
theorem dX8_addOrder_70 : decode cX8_addOrder 70 = .ok (.idiv, 1) := by decide +kernel
theorem dX8_addOrder_71 : decode cX8_addOrder 71 = .ok (.iload_n 2, 1) := by decide +kernel
theorem dX8_addOrder_72 : decode cX8_addOrder 72 = .ok (.bipush 20, 2) := by decide +kernel
theorem dX8_addOrder_74 : decode cX8_addOrder 74 = .ok (.idiv, 1) := by decide +kernel
theorem dX8_addOrder_75 : decode cX8_addOrder 75 = .ok (.if_icmp .ne 25, 3) := by decide +kernel
theorem dX8_addOrder_78 : decode cX8_addOrder 78 = .ok (.aload_n 0, 1) := by decide +kernel
theorem dX8_addOrder_79 : decode cX8_addOrder 79 = .ok (.aload_n 0, 1) := by decide +kernel
theorem dX8_addOrder_80 : decode cX8_addOrder 80 = .ok (.getfield 48, 3) := by decide +kernel
theorem dX8_addOrder_83 : decode cX8_addOrder 83 = .ok (.iload 4, 2) := by decide +kernel
theorem dX8_addOrder_85 : decode cX8_addOrder 85 = .ok (.iaload, 1) := by decide +kernel
theorem dX8_addOrder_86 : decode cX8_addOrder 86 = .ok (.sipush 1000, 3) := by decide +kernel
theorem dX8_addOrder_89 : decode cX8_addOrder 89 = .ok (.isub, 1) := by decide +kernel
theorem dX8_addOrder_90 : decode cX8_addOrder 90 = .ok (.invokevirtual 112, 3) := by decide +kernel
theorem dX8_addOrder_93 : decode cX8_addOrder 93 = .ok (.ifCond .le 7, 3) := by decide +kernel
theorem dX8_addOrder_96 : decode cX8_addOrder 96 = .ok (.iconst 1, 1) := by decide +kernel
theorem dX8_addOrder_97 : decode cX8_addOrder 97 = .ok (.goto 4, 3) := by decide +kernel
theorem dX8_addOrder_100 : decode cX8_addOrder 100 = .ok (.iconst 0, 1) := by decide +kernel
theorem dX8_addOrder_101 : decode cX8_addOrder 101 = .ok (.istore 5, 2) := by decide +kernel
theorem dX8_addOrder_103 : decode cX8_addOrder 103 = .ok (.iload 5, 2) := by decide +kernel
theorem dX8_addOrder_105 : decode cX8_addOrder 105 = .ok (.ifCond .eq 21, 3) := by decide +kernel
theorem dX8_addOrder_108 : decode cX8_addOrder 108 = .ok (.aload_n 0, 1) := by decide +kernel
theorem dX8_addOrder_109 : decode cX8_addOrder 109 = .ok (.aload_n 0, 1) := by decide +kernel
theorem dX8_addOrder_110 : decode cX8_addOrder 110 = .ok (.getfield 48, 3) := by decide +kernel
theorem dX8_addOrder_113 : decode cX8_addOrder 113 = .ok (.iload 4, 2) := by decide +kernel
theorem dX8_addOrder_115 : decode cX8_addOrder 115 = .ok (.iaload, 1) := by decide +kernel
theorem dX8_addOrder_116 : decode cX8_addOrder 116 = .ok (.sipush 1000, 3) := by decide +kernel
theorem dX8_addOrder_119 : decode cX8_addOrder 119 = .ok (.isub, 1) := by decide +kernel
theorem dX8_addOrder_120 : decode cX8_addOrder 120 = .ok (.invokevirtual 112, 3) := by decide +kernel
theorem dX8_addOrder_123 : decode cX8_addOrder 123 = .ok (.goto 4, 3) := by decide +kernel
theorem dX8_addOrder_126 : decode cX8_addOrder 126 = .ok (.iload_n 3, 1) := by decide +kernel
theorem dX8_addOrder_127 : decode cX8_addOrder 127 = .ok (.istore_n 3, 1) := by decide +kernel
theorem dX8_addOrder_128 : decode cX8_addOrder 128 = .ok (.iinc 4 1, 3) := by decide +kernel
theorem dX8_addOrder_131 : decode cX8_addOrder 131 = .ok (.goto (-93), 3) := by decide +kernel
theorem dX8_addOrder_134 : decode cX8_addOrder 134 = .ok (.aload_n 0, 1) := by decide +kernel
theorem dX8_addOrder_135 : decode cX8_addOrder 135 = .ok (.iload_n 2, 1) := by decide +kernel
theorem dX8_addOrder_136 : decode cX8_addOrder 136 = .ok (.invokevirtual 112, 3) := by decide +kernel
theorem dX8_addOrder_139 : decode cX8_addOrder 139 = .ok (.iload_n 3, 1) := by decide +kernel
theorem dX8_addOrder_140 : decode cX8_addOrder 140 = .ok (.if_icmp .ge 16, 3) := by decide +kernel
theorem dX8_addOrder_143 : decode cX8_addOrder 143 = .ok (.aload_n 0, 1) := by decide +kernel
theorem dX8_addOrder_144 : decode cX8_addOrder 144 = .ok (.bipush 10, 2) := by decide +kernel
theorem dX8_addOrder_146 : decode cX8_addOrder 146 = .ok (.aload_n 0, 1) := by decide +kernel
theorem dX8_addOrder_147 : decode cX8_addOrder 147 = .ok (.getfield 51, 3) := by decide +kernel
theorem dX8_addOrder_150 : decode cX8_addOrder 150 = .ok (.iload_n 1, 1) := by decide +kernel
theorem dX8_addOrder_151 : decode cX8_addOrder 151 = .ok (.iaload, 1) := by decide +kernel
theorem dX8_addOrder_152 : decode cX8_addOrder 152 = .ok (.iload_n 2, 1) := by decide +kernel
theorem dX8_addOrder_153 : decode cX8_addOrder 153 = .ok (.invokevirtual 163, 3) := by decide +kernel
theorem dX8_addOrder_156 : decode cX8_addOrder 156 = .ok (.iinc 1 1, 3) := by decide +kernel
theorem dX8_addOrder_159 : decode cX8_addOrder 159 = .ok (.goto (-157), 3) := by decide +kernel
theorem dX8_addOrder_162 : decode cX8_addOrder 162 = .ok (.return_, 1) := by decide +kernel
theorem dX8_check_0 : decode cX8_check 0 = .ok (.aload_n 0, 1) := by decide +kernel
theorem dX8_check_1 : decode cX8_check 1 = .ok (.iconst 0, 1) := by decide +kernel
theorem dX8_check_2 : decode cX8_check 2 = .ok (.putfield 78, 3) := by decide +kernel
theorem dX8_check_5 : decode cX8_check 5 = .ok (.aload_n 0, 1) := by decide +kernel
theorem dX8_check_6 : decode cX8_check 6 = .ok (.invokevirtual 135, 3) := by decide +kernel
theorem dX8_check_9 : decode cX8_check 9 = .ok (.aload_n 0, 1) := by decide +kernel
theorem dX8_check_10 : decode cX8_check 10 = .ok (.iconst 0, 1) := by decide +kernel
theorem dX8_check_11 : decode cX8_check 11 = .ok (.putfield 141, 3) := by decide +kernel
theorem dX8_check_14 : decode cX8_check 14 = .ok (.iconst 1, 1) := by decide +kernel
theorem dX8_check_15 : decode cX8_check 15 = .ok (.istore_n 1, 1) := by decide +kernel
theorem dX8_check_16 : decode cX8_check 16 = .ok (.iload_n 1, 1) := by decide +kernel
theorem dX8_check_17 : decode cX8_check 17 = .ok (.bipush 8, 2) := by decide +kernel
theorem dX8_check_19 : decode cX8_check 19 = .ok (.if_icmp .ge 53, 3) := by decide +kernel
theorem dX8_check_22 : decode cX8_check 22 = .ok (.iload_n 1, 1) := by decide +kernel
theorem dX8_check_23 : decode cX8_check 23 = .ok (.iconst 3, 1) := by decide +kernel
theorem dX8_check_24 : decode cX8_check 24 = .ok (.if_icmp .ne 10, 3) := by decide +kernel
theorem dX8_check_27 : decode cX8_check 27 = .ok (.aload_n 0, 1) := by decide +kernel
theorem dX8_check_28 : decode cX8_check 28 = .ok (.invokevirtual 167, 3) := by decide +kernel
theorem dX8_check_31 : decode cX8_check 31 = .ok (.goto 35, 3) := by decide +kernel
theorem dX8_check_34 : decode cX8_check 34 = .ok (.iconst 0, 1) := by decide +kernel
theorem dX8_check_35 : decode cX8_check 35 = .ok (.istore_n 2, 1) := by decide +kernel
theorem dX8_check_36 : decode cX8_check 36 = .ok (.iload_n 2, 1) := by decide +kernel
theorem dX8_check_37 : decode cX8_check 37 = .ok (.aload_n 0, 1) := by decide +kernel
theorem dX8_check_38 : decode cX8_check 38 = .ok (.getfield 7, 3) := by decide +kernel
theorem dX8_check_41 : decode cX8_check 41 = .ok (.if_icmp .ge 25, 3) := by decide +kernel
theorem dX8_check_44 : decode cX8_check 44 = .ok (.aload_n 0, 1) := by decide +kernel
theorem dX8_check_45 : decode cX8_check 45 = .ok (.iload_n 2, 1) := by decide +kernel
theorem dX8_check_46 : decode cX8_check 46 = .ok (.iload_n 1, 1) := by decide +kernel
theorem dX8_check_47 : decode cX8_check 47 = .ok (.invokevirtual 170, 3) := by decide +kernel
theorem dX8_check_50 : decode cX8_check 50 = .ok (.ifCond .eq 10, 3) := by decide +kernel
theorem dX8_check_53 : decode cX8_check 53 = .ok (.aload_n 0, 1) := by decide +kernel
theorem dX8_check_54 : decode cX8_check 54 = .ok (.iload_n 1, 1) := by decide +kernel
theorem dX8_check_55 : decode cX8_check 55 = .ok (.iload_n 2, 1) := by decide +kernel
theorem dX8_check_56 : decode cX8_check 56 = .ok (.iconst 0, 1) := by decide +kernel
theorem dX8_check_57 : decode cX8_check 57 = .ok (.invokevirtual 163, 3) := by decide +kernel
theorem dX8_check_60 : decode cX8_check 60 = .ok (.iinc 2 1, 3) := by decide +kernel
theorem dX8_check_63 : decode cX8_check 63 = .ok (.goto (-27), 3) := by decide +kernel
theorem dX8_check_66 : decode cX8_check 66 = .ok (.iinc 1 1, 3) := by decide +kernel
theorem dX8_check_69 : decode cX8_check 69 = .ok (.goto (-53), 3) := by decide +kernel
theorem dX8_check_72 : decode cX8_check 72 = .ok (.iconst 0, 1) := by decide +kernel
theorem dX8_check_73 : decode cX8_check 73 = .ok (.istore_n 1, 1) := by decide +kernel
theorem dX8_check_74 : decode cX8_check 74 = .ok (.iload_n 1, 1) := by decide +kernel
theorem dX8_check_75 : decode cX8_check 75 = .ok (.aload_n 0, 1) := by decide +kernel
theorem dX8_check_76 : decode cX8_check 76 = .ok (.getfield 103, 3) := by decide +kernel
theorem dX8_check_79 : decode cX8_check 79 = .ok (.if_icmp .ge 27, 3) := by decide +kernel
theorem dX8_check_82 : decode cX8_check 82 = .ok (.aload_n 0, 1) := by decide +kernel
theorem dX8_check_83 : decode cX8_check 83 = .ok (.bipush 8, 2) := by decide +kernel
theorem dX8_check_85 : decode cX8_check 85 = .ok (.aload_n 0, 1) := by decide +kernel
theorem dX8_check_86 : decode cX8_check 86 = .ok (.getfield 42, 3) := by decide +kernel
theorem dX8_check_89 : decode cX8_check 89 = .ok (.iload_n 1, 1) := by decide +kernel
theorem dX8_check_90 : decode cX8_check 90 = .ok (.iaload, 1) := by decide +kernel
theorem dX8_check_91 : decode cX8_check 91 = .ok (.aload_n 0, 1) := by decide +kernel
theorem dX8_check_92 : decode cX8_check 92 = .ok (.getfield 39, 3) := by decide +kernel
theorem dX8_check_95 : decode cX8_check 95 = .ok (.iload_n 1, 1) := by decide +kernel
theorem dX8_check_96 : decode cX8_check 96 = .ok (.iaload, 1) := by decide +kernel
theorem dX8_check_97 : decode cX8_check 97 = .ok (.invokevirtual 163, 3) := by decide +kernel
theorem dX8_check_100 : decode cX8_check 100 = .ok (.iinc 1 1, 3) := by decide +kernel
theorem dX8_check_103 : decode cX8_check 103 = .ok (.goto (-29), 3) := by decide +kernel
theorem dX8_check_106 : decode cX8_check 106 = .ok (.iconst 0, 1) := by decide +kernel
theorem dX8_check_107 : decode cX8_check 107 = .ok (.istore_n 1, 1) := by decide +kernel
theorem dX8_check_108 : decode cX8_check 108 = .ok (.iload_n 1, 1) := by decide +kernel
theorem dX8_check_109 : decode cX8_check 109 = .ok (.aload_n 0, 1) := by decide +kernel
theorem dX8_check_110 : decode cX8_check 110 = .ok (.invokevirtual 173, 3) := by decide +kernel
theorem dX8_check_113 : decode cX8_check 113 = .ok (.if_icmp .ge 21, 3) := by decide +kernel
theorem dX8_check_116 : decode cX8_check 116 = .ok (.aload_n 0, 1) := by decide +kernel
theorem dX8_check_117 : decode cX8_check 117 = .ok (.bipush 9, 2) := by decide +kernel
theorem dX8_check_119 : decode cX8_check 119 = .ok (.iconst (-1), 1) := by decide +kernel
theorem dX8_check_120 : decode cX8_check 120 = .ok (.aload_n 0, 1) := by decide +kernel
theorem dX8_check_121 : decode cX8_check 121 = .ok (.iload_n 1, 1) := by decide +kernel
theorem dX8_check_122 : decode cX8_check 122 = .ok (.invokevirtual 177, 3) := by decide +kernel
theorem dX8_check_125 : decode cX8_check 125 = .ok (.invokevirtual 163, 3) := by decide +kernel
theorem dX8_check_128 : decode cX8_check 128 = .ok (.iinc 1 1, 3) := by decide +kernel
theorem dX8_check_131 : decode cX8_check 131 = .ok (.goto (-23), 3) := by decide +kernel
theorem dX8_check_134 : decode cX8_check 134 = .ok (.aload_n 0, 1) := by decide +kernel
theorem dX8_check_135 : decode cX8_check 135 = .ok (.invokevirtual 180, 3) := by decide +kernel
theorem dX8_check_138 : decode cX8_check 138 = .ok (.aload_n 0, 1) := by decide +kernel
theorem dX8_check_139 : decode cX8_check 139 = .ok (.getfield 141, 3) := by decide +kernel
theorem dX8_check_142 : decode cX8_check 142 = .ok (.ireturn, 1) := by decide +kernel
theorem dX8_fault_0 : decode cX8_fault 0 = .ok (.aload_n 0, 1) := by decide +kernel
theorem dX8_fault_1 : decode cX8_fault 1 = .ok (.iload_n 1, 1) := by decide +kernel
theorem dX8_fault_2 : decode cX8_fault 2 = .ok (.iconst 0, 1) := by decide +kernel
theorem dX8_fault_3 : decode cX8_fault 3 = .ok (.aload_n 0, 1) := by decide +kernel
theorem dX8_fault_4 : decode cX8_fault 4 = .ok (.getfield 141, 3) := by decide +kernel
theorem dX8_fault_7 : decode cX8_fault 7 = .ok (.iconst 1, 1) := by decide +kernel
theorem dX8_fault_8 : decode cX8_fault 8 = .ok (.isub, 1) := by decide +kernel
theorem dX8_fault_9 : decode cX8_fault 9 = .ok (.invokestatic 85, 3) := by decide +kernel
theorem dX8_fault_12 : decode cX8_fault 12 = .ok (.ifCond .eq 16, 3) := by decide +kernel
theorem dX8_fault_15 : decode cX8_fault 15 = .ok (.iload_n 2, 1) := by decide +kernel
theorem dX8_fault_16 : decode cX8_fault 16 = .ok (.iconst 0, 1) := by decide +kernel
theorem dX8_fault_17 : decode cX8_fault 17 = .ok (.iconst 2, 1) := by decide +kernel
theorem dX8_fault_18 : decode cX8_fault 18 = .ok (.invokestatic 85, 3) := by decide +kernel
theorem dX8_fault_21 : decode cX8_fault 21 = .ok (.ifCond .eq 7, 3) := by decide +kernel
theorem dX8_fault_24 : decode cX8_fault 24 = .ok (.iconst 0, 1) := by decide +kernel
theorem dX8_fault_25 : decode cX8_fault 25 = .ok (.goto 4, 3) := by decide +kernel
theorem dX8_fault_28 : decode cX8_fault 28 = .ok (.iconst 1, 1) := by decide +kernel
theorem dX8_fault_29 : decode cX8_fault 29 = .ok (.putfield 78, 3) := by decide +kernel
theorem dX8_fault_32 : decode cX8_fault 32 = .ok (.aload_n 0, 1) := by decide +kernel
theorem dX8_fault_33 : decode cX8_fault 33 = .ok (.getfield 78, 3) := by decide +kernel
theorem dX8_fault_36 : decode cX8_fault 36 = .ok (.ifCond .le 5, 3) := by decide +kernel
theorem dX8_fault_39 : decode cX8_fault 39 = .ok (.iconst 0, 1) := by decide +kernel
theorem dX8_fault_40 : decode cX8_fault 40 = .ok (.ireturn, 1) := by decide +kernel
theorem dX8_fault_41 : decode cX8_fault 41 = .ok (.iload_n 2, 1) := by decide +kernel
theorem dX8_fault_42 : decode cX8_fault 42 = .ok (.ifCond .ne 12, 3) := by decide +kernel
theorem dX8_fault_45 : decode cX8_fault 45 = .ok (.aload_n 0, 1) := by decide +kernel
theorem dX8_fault_46 : decode cX8_fault 46 = .ok (.getfield 66, 3) := by decide +kernel
theorem dX8_fault_49 : decode cX8_fault 49 = .ok (.iload_n 1, 1) := by decide +kernel
theorem dX8_fault_50 : decode cX8_fault 50 = .ok (.iaload, 1) := by decide +kernel
theorem dX8_fault_51 : decode cX8_fault 51 = .ok (.goto 23, 3) := by decide +kernel
theorem dX8_fault_54 : decode cX8_fault 54 = .ok (.iload_n 2, 1) := by decide +kernel
theorem dX8_fault_55 : decode cX8_fault 55 = .ok (.iconst 1, 1) := by decide +kernel
theorem dX8_fault_56 : decode cX8_fault 56 = .ok (.if_icmp .ne 12, 3) := by decide +kernel
theorem dX8_fault_59 : decode cX8_fault 59 = .ok (.aload_n 0, 1) := by decide +kernel
theorem dX8_fault_60 : decode cX8_fault 60 = .ok (.getfield 69, 3) := by decide +kernel
theorem dX8_fault_63 : decode cX8_fault 63 = .ok (.iload_n 1, 1) := by decide +kernel
theorem dX8_fault_64 : decode cX8_fault 64 = .ok (.iaload, 1) := by decide +kernel
theorem dX8_fault_65 : decode cX8_fault 65 = .ok (.goto 9, 3) := by decide +kernel
theorem dX8_fault_68 : decode cX8_fault 68 = .ok (.aload_n 0, 1) := by decide +kernel
theorem dX8_fault_69 : decode cX8_fault 69 = .ok (.getfield 72, 3) := by decide +kernel
theorem dX8_fault_72 : decode cX8_fault 72 = .ok (.iload_n 1, 1) := by decide +kernel
theorem dX8_fault_73 : decode cX8_fault 73 = .ok (.iaload, 1) := by decide +kernel
theorem dX8_fault_74 : decode cX8_fault 74 = .ok (.ireturn, 1) := by decide +kernel
theorem dX8_heading_0 : decode cX8_heading 0 = .ok (.aload_n 0, 1) := by decide +kernel
theorem dX8_heading_1 : decode cX8_heading 1 = .ok (.aload_n 0, 1) := by decide +kernel
theorem dX8_heading_2 : decode cX8_heading 2 = .ok (.iload_n 1, 1) := by decide +kernel
theorem dX8_heading_3 : decode cX8_heading 3 = .ok (.invokevirtual 81, 3) := by decide +kernel
theorem dX8_heading_6 : decode cX8_heading 6 = .ok (.ifCond .ne 7, 3) := by decide +kernel
theorem dX8_heading_9 : decode cX8_heading 9 = .ok (.iconst 1, 1) := by decide +kernel
theorem dX8_heading_10 : decode cX8_heading 10 = .ok (.goto 18, 3) := by decide +kernel
theorem dX8_heading_13 : decode cX8_heading 13 = .ok (.iload_n 2, 1) := by decide +kernel
theorem dX8_heading_14 : decode cX8_heading 14 = .ok (.iconst 1, 1) := by decide +kernel
theorem dX8_heading_15 : decode cX8_heading 15 = .ok (.bipush 6, 2) := by decide +kernel
theorem dX8_heading_17 : decode cX8_heading 17 = .ok (.invokestatic 85, 3) := by decide +kernel
theorem dX8_heading_20 : decode cX8_heading 20 = .ok (.ifCond .ne 7, 3) := by decide +kernel
theorem dX8_heading_23 : decode cX8_heading 23 = .ok (.iconst 2, 1) := by decide +kernel
theorem dX8_heading_24 : decode cX8_heading 24 = .ok (.goto 4, 3) := by decide +kernel
theorem dX8_heading_27 : decode cX8_heading 27 = .ok (.iconst 0, 1) := by decide +kernel
theorem dX8_heading_28 : decode cX8_heading 28 = .ok (.putfield 78, 3) := by decide +kernel
theorem dX8_heading_31 : decode cX8_heading 31 = .ok (.aload_n 0, 1) := by decide +kernel
theorem dX8_heading_32 : decode cX8_heading 32 = .ok (.getfield 78, 3) := by decide +kernel
theorem dX8_heading_35 : decode cX8_heading 35 = .ok (.ifCond .le 5, 3) := by decide +kernel
theorem dX8_heading_38 : decode cX8_heading 38 = .ok (.iconst 0, 1) := by decide +kernel
theorem dX8_heading_39 : decode cX8_heading 39 = .ok (.ireturn, 1) := by decide +kernel
theorem dX8_heading_40 : decode cX8_heading 40 = .ok (.aload_n 0, 1) := by decide +kernel
theorem dX8_heading_41 : decode cX8_heading 41 = .ok (.getfield 17, 3) := by decide +kernel
theorem dX8_heading_44 : decode cX8_heading 44 = .ok (.iload_n 1, 1) := by decide +kernel
theorem dX8_heading_45 : decode cX8_heading 45 = .ok (.iaload, 1) := by decide +kernel
theorem dX8_heading_46 : decode cX8_heading 46 = .ok (.istore_n 3, 1) := by decide +kernel
theorem dX8_heading_47 : decode cX8_heading 47 = .ok (.aload_n 0, 1) := by decide +kernel
theorem dX8_heading_48 : decode cX8_heading 48 = .ok (.getfield 17, 3) := by decide +kernel
theorem dX8_heading_51 : decode cX8_heading 51 = .ok (.iload_n 1, 1) := by decide +kernel
theorem dX8_heading_52 : decode cX8_heading 52 = .ok (.iload_n 2, 1) := by decide +kernel
theorem dX8_heading_53 : decode cX8_heading 53 = .ok (.iastore, 1) := by decide +kernel
theorem dX8_heading_54 : decode cX8_heading 54 = .ok (.iload_n 3, 1) := by decide +kernel
theorem dX8_heading_55 : decode cX8_heading 55 = .ok (.ireturn, 1) := by decide +kernel
theorem dX8_words_0 : decode cX8_words 0 = .ok (.aload_n 0, 1) := by decide +kernel
theorem dX8_words_1 : decode cX8_words 1 = .ok (.aload_n 0, 1) := by decide +kernel
theorem dX8_words_2 : decode cX8_words 2 = .ok (.iload_n 1, 1) := by decide +kernel
theorem dX8_words_3 : decode cX8_words 3 = .ok (.invokevirtual 81, 3) := by decide +kernel
theorem dX8_words_6 : decode cX8_words 6 = .ok (.ifCond .eq 7, 3) := by decide +kernel
theorem dX8_words_9 : decode cX8_words 9 = .ok (.iconst 0, 1) := by decide +kernel
theorem dX8_words_10 : decode cX8_words 10 = .ok (.goto 4, 3) := by decide +kernel
theorem dX8_words_13 : decode cX8_words 13 = .ok (.iconst 1, 1) := by decide +kernel
theorem dX8_words_14 : decode cX8_words 14 = .ok (.putfield 78, 3) := by decide +kernel
theorem dX8_words_17 : decode cX8_words 17 = .ok (.aload_n 0, 1) := by decide +kernel
theorem dX8_words_18 : decode cX8_words 18 = .ok (.getfield 78, 3) := by decide +kernel
theorem dX8_words_21 : decode cX8_words 21 = .ok (.ifCond .le 5, 3) := by decide +kernel
theorem dX8_words_24 : decode cX8_words 24 = .ok (.iconst 0, 1) := by decide +kernel
theorem dX8_words_25 : decode cX8_words 25 = .ok (.ireturn, 1) := by decide +kernel
theorem dX8_words_26 : decode cX8_words 26 = .ok (.aload_n 0, 1) := by decide +kernel
theorem dX8_words_27 : decode cX8_words 27 = .ok (.getfield 20, 3) := by decide +kernel
theorem dX8_words_30 : decode cX8_words 30 = .ok (.iload_n 1, 1) := by decide +kernel
theorem dX8_words_31 : decode cX8_words 31 = .ok (.baload, 1) := by decide +kernel
theorem dX8_words_32 : decode cX8_words 32 = .ok (.ifCond .eq 7, 3) := by decide +kernel
theorem dX8_words_35 : decode cX8_words 35 = .ok (.iconst 1, 1) := by decide +kernel
theorem dX8_words_36 : decode cX8_words 36 = .ok (.goto 4, 3) := by decide +kernel
theorem dX8_words_39 : decode cX8_words 39 = .ok (.iconst 0, 1) := by decide +kernel
theorem dX8_words_40 : decode cX8_words 40 = .ok (.istore_n 3, 1) := by decide +kernel
theorem dX8_words_41 : decode cX8_words 41 = .ok (.aload_n 0, 1) := by decide +kernel
theorem dX8_words_42 : decode cX8_words 42 = .ok (.getfield 20, 3) := by decide +kernel
theorem dX8_words_45 : decode cX8_words 45 = .ok (.iload_n 1, 1) := by decide +kernel
theorem dX8_words_46 : decode cX8_words 46 = .ok (.iload_n 2, 1) := by decide +kernel
theorem dX8_words_47 : decode cX8_words 47 = .ok (.bastore, 1) := by decide +kernel
theorem dX8_words_48 : decode cX8_words 48 = .ok (.iload_n 3, 1) := by decide +kernel
theorem dX8_words_49 : decode cX8_words 49 = .ok (.ireturn, 1) := by decide +kernel
theorem dX8_span_0 : decode cX8_span 0 = .ok (.aload_n 0, 1) := by decide +kernel
theorem dX8_span_1 : decode cX8_span 1 = .ok (.aload_n 0, 1) := by decide +kernel
theorem dX8_span_2 : decode cX8_span 2 = .ok (.iload_n 1, 1) := by decide +kernel
theorem dX8_span_3 : decode cX8_span 3 = .ok (.invokevirtual 81, 3) := by decide +kernel
theorem dX8_span_6 : decode cX8_span 6 = .ok (.ifCond .ne 7, 3) := by decide +kernel
theorem dX8_span_9 : decode cX8_span 9 = .ok (.iconst 1, 1) := by decide +kernel
theorem dX8_span_10 : decode cX8_span 10 = .ok (.goto 28, 3) := by decide +kernel
theorem dX8_span_13 : decode cX8_span 13 = .ok (.iload_n 2, 1) := by decide +kernel
theorem dX8_span_14 : decode cX8_span 14 = .ok (.iconst 1, 1) := by decide +kernel
theorem dX8_span_15 : decode cX8_span 15 = .ok (.bipush 8, 2) := by decide +kernel
theorem dX8_span_17 : decode cX8_span 17 = .ok (.invokestatic 85, 3) := by decide +kernel
theorem dX8_span_20 : decode cX8_span 20 = .ok (.ifCond .eq 13, 3) := by decide +kernel
theorem dX8_span_23 : decode cX8_span 23 = .ok (.iload_n 3, 1) := by decide +kernel
theorem dX8_span_24 : decode cX8_span 24 = .ok (.iconst 1, 1) := by decide +kernel
theorem dX8_span_25 : decode cX8_span 25 = .ok (.bipush 8, 2) := by decide +kernel
theorem dX8_span_27 : decode cX8_span 27 = .ok (.invokestatic 85, 3) := by decide +kernel
theorem dX8_span_30 : decode cX8_span 30 = .ok (.ifCond .ne 7, 3) := by decide +kernel
theorem dX8_span_33 : decode cX8_span 33 = .ok (.iconst 2, 1) := by decide +kernel
theorem dX8_span_34 : decode cX8_span 34 = .ok (.goto 4, 3) := by decide +kernel
theorem dX8_span_37 : decode cX8_span 37 = .ok (.iconst 0, 1) := by decide +kernel
theorem dX8_span_38 : decode cX8_span 38 = .ok (.putfield 78, 3) := by decide +kernel
theorem dX8_span_41 : decode cX8_span 41 = .ok (.aload_n 0, 1) := by decide +kernel
theorem dX8_span_42 : decode cX8_span 42 = .ok (.getfield 78, 3) := by decide +kernel
theorem dX8_span_45 : decode cX8_span 45 = .ok (.ifCond .le 5, 3) := by decide +kernel
theorem dX8_span_48 : decode cX8_span 48 = .ok (.iconst 0, 1) := by decide +kernel
theorem dX8_span_49 : decode cX8_span 49 = .ok (.ireturn, 1) := by decide +kernel
theorem dX8_span_50 : decode cX8_span 50 = .ok (.bipush 10, 2) := by decide +kernel
theorem dX8_span_52 : decode cX8_span 52 = .ok (.aload_n 0, 1) := by decide +kernel
theorem dX8_span_53 : decode cX8_span 53 = .ok (.getfield 24, 3) := by decide +kernel
theorem dX8_span_56 : decode cX8_span 56 = .ok (.iload_n 1, 1) := by decide +kernel
theorem dX8_span_57 : decode cX8_span 57 = .ok (.iaload, 1) := by decide +kernel
theorem dX8_span_58 : decode cX8_span 58 = .ok (.imul, 1) := by decide +kernel
theorem dX8_span_59 : decode cX8_span 59 = .ok (.aload_n 0, 1) := by decide +kernel
theorem dX8_span_60 : decode cX8_span 60 = .ok (.getfield 27, 3) := by decide +kernel
theorem dX8_span_63 : decode cX8_span 63 = .ok (.iload_n 1, 1) := by decide +kernel
theorem dX8_span_64 : decode cX8_span 64 = .ok (.iaload, 1) := by decide +kernel
theorem dX8_span_65 : decode cX8_span 65 = .ok (.iadd, 1) := by decide +kernel
theorem dX8_span_66 : decode cX8_span 66 = .ok (.istore 4, 2) := by decide +kernel
theorem dX8_span_68 : decode cX8_span 68 = .ok (.aload_n 0, 1) := by decide +kernel
theorem dX8_span_69 : decode cX8_span 69 = .ok (.getfield 24, 3) := by decide +kernel
theorem dX8_span_72 : decode cX8_span 72 = .ok (.iload_n 1, 1) := by decide +kernel
theorem dX8_span_73 : decode cX8_span 73 = .ok (.iload_n 2, 1) := by decide +kernel
theorem dX8_span_74 : decode cX8_span 74 = .ok (.iastore, 1) := by decide +kernel
theorem dX8_span_75 : decode cX8_span 75 = .ok (.aload_n 0, 1) := by decide +kernel
theorem dX8_span_76 : decode cX8_span 76 = .ok (.getfield 27, 3) := by decide +kernel
theorem dX8_span_79 : decode cX8_span 79 = .ok (.iload_n 1, 1) := by decide +kernel
theorem dX8_span_80 : decode cX8_span 80 = .ok (.iload_n 3, 1) := by decide +kernel
theorem dX8_span_81 : decode cX8_span 81 = .ok (.iastore, 1) := by decide +kernel
theorem dX8_span_82 : decode cX8_span 82 = .ok (.iload 4, 2) := by decide +kernel
theorem dX8_span_84 : decode cX8_span 84 = .ok (.ireturn, 1) := by decide +kernel
theorem dX8_outline_0 : decode cX8_outline 0 = .ok (.aload_n 0, 1) := by decide +kernel
theorem dX8_outline_1 : decode cX8_outline 1 = .ok (.invokevirtual 135, 3) := by decide +kernel
theorem dX8_outline_4 : decode cX8_outline 4 = .ok (.aload_n 0, 1) := by decide +kernel
theorem dX8_outline_5 : decode cX8_outline 5 = .ok (.iconst 0, 1) := by decide +kernel
theorem dX8_outline_6 : decode cX8_outline 6 = .ok (.putfield 78, 3) := by decide +kernel
theorem dX8_outline_9 : decode cX8_outline 9 = .ok (.iload_n 1, 1) := by decide +kernel
theorem dX8_outline_10 : decode cX8_outline 10 = .ok (.iconst (-1), 1) := by decide +kernel
theorem dX8_outline_11 : decode cX8_outline 11 = .ok (.if_icmp .ne 8, 3) := by decide +kernel
theorem dX8_outline_14 : decode cX8_outline 14 = .ok (.aload_n 0, 1) := by decide +kernel
theorem dX8_outline_15 : decode cX8_outline 15 = .ok (.getfield 132, 3) := by decide +kernel
theorem dX8_outline_18 : decode cX8_outline 18 = .ok (.ireturn, 1) := by decide +kernel
theorem dX8_outline_19 : decode cX8_outline 19 = .ok (.aload_n 0, 1) := by decide +kernel
theorem dX8_outline_20 : decode cX8_outline 20 = .ok (.iload_n 1, 1) := by decide +kernel
theorem dX8_outline_21 : decode cX8_outline 21 = .ok (.iconst 0, 1) := by decide +kernel
theorem dX8_outline_22 : decode cX8_outline 22 = .ok (.aload_n 0, 1) := by decide +kernel
theorem dX8_outline_23 : decode cX8_outline 23 = .ok (.getfield 132, 3) := by decide +kernel
theorem dX8_outline_26 : decode cX8_outline 26 = .ok (.iconst 1, 1) := by decide +kernel
theorem dX8_outline_27 : decode cX8_outline 27 = .ok (.isub, 1) := by decide +kernel
theorem dX8_outline_28 : decode cX8_outline 28 = .ok (.invokestatic 85, 3) := by decide +kernel
theorem dX8_outline_31 : decode cX8_outline 31 = .ok (.ifCond .eq 16, 3) := by decide +kernel
theorem dX8_outline_34 : decode cX8_outline 34 = .ok (.iload_n 2, 1) := by decide +kernel
theorem dX8_outline_35 : decode cX8_outline 35 = .ok (.iconst 0, 1) := by decide +kernel
theorem dX8_outline_36 : decode cX8_outline 36 = .ok (.iconst 2, 1) := by decide +kernel
theorem dX8_outline_37 : decode cX8_outline 37 = .ok (.invokestatic 85, 3) := by decide +kernel
theorem dX8_outline_40 : decode cX8_outline 40 = .ok (.ifCond .eq 7, 3) := by decide +kernel
theorem dX8_outline_43 : decode cX8_outline 43 = .ok (.iconst 0, 1) := by decide +kernel
theorem dX8_outline_44 : decode cX8_outline 44 = .ok (.goto 4, 3) := by decide +kernel
theorem dX8_outline_47 : decode cX8_outline 47 = .ok (.iconst 1, 1) := by decide +kernel
theorem dX8_outline_48 : decode cX8_outline 48 = .ok (.putfield 78, 3) := by decide +kernel
theorem dX8_outline_51 : decode cX8_outline 51 = .ok (.aload_n 0, 1) := by decide +kernel
theorem dX8_outline_52 : decode cX8_outline 52 = .ok (.getfield 78, 3) := by decide +kernel
theorem dX8_outline_55 : decode cX8_outline 55 = .ok (.ifCond .le 5, 3) := by decide +kernel
theorem dX8_outline_58 : decode cX8_outline 58 = .ok (.iconst 0, 1) := by decide +kernel
theorem dX8_outline_59 : decode cX8_outline 59 = .ok (.ireturn, 1) := by decide +kernel
theorem dX8_outline_60 : decode cX8_outline 60 = .ok (.iload_n 2, 1) := by decide +kernel
theorem dX8_outline_61 : decode cX8_outline 61 = .ok (.ifCond .ne 12, 3) := by decide +kernel
theorem dX8_outline_64 : decode cX8_outline 64 = .ok (.aload_n 0, 1) := by decide +kernel
theorem dX8_outline_65 : decode cX8_outline 65 = .ok (.getfield 60, 3) := by decide +kernel
theorem dX8_outline_68 : decode cX8_outline 68 = .ok (.iload_n 1, 1) := by decide +kernel
theorem dX8_outline_69 : decode cX8_outline 69 = .ok (.iaload, 1) := by decide +kernel
theorem dX8_outline_70 : decode cX8_outline 70 = .ok (.goto 28, 3) := by decide +kernel
theorem dX8_outline_73 : decode cX8_outline 73 = .ok (.iload_n 2, 1) := by decide +kernel
theorem dX8_outline_74 : decode cX8_outline 74 = .ok (.iconst 1, 1) := by decide +kernel
theorem dX8_outline_75 : decode cX8_outline 75 = .ok (.if_icmp .ne 12, 3) := by decide +kernel
theorem dX8_outline_78 : decode cX8_outline 78 = .ok (.aload_n 0, 1) := by decide +kernel
theorem dX8_outline_79 : decode cX8_outline 79 = .ok (.getfield 63, 3) := by decide +kernel
theorem dX8_outline_82 : decode cX8_outline 82 = .ok (.iload_n 1, 1) := by decide +kernel
theorem dX8_outline_83 : decode cX8_outline 83 = .ok (.iaload, 1) := by decide +kernel
theorem dX8_outline_84 : decode cX8_outline 84 = .ok (.goto 14, 3) := by decide +kernel
theorem dX8_outline_87 : decode cX8_outline 87 = .ok (.aload_n 0, 1) := by decide +kernel
theorem dX8_outline_88 : decode cX8_outline 88 = .ok (.getfield 17, 3) := by decide +kernel
theorem dX8_outline_91 : decode cX8_outline 91 = .ok (.aload_n 0, 1) := by decide +kernel
theorem dX8_outline_92 : decode cX8_outline 92 = .ok (.getfield 60, 3) := by decide +kernel
theorem dX8_outline_95 : decode cX8_outline 95 = .ok (.iload_n 1, 1) := by decide +kernel
theorem dX8_outline_96 : decode cX8_outline 96 = .ok (.iaload, 1) := by decide +kernel
theorem dX8_outline_97 : decode cX8_outline 97 = .ok (.iaload, 1) := by decide +kernel
theorem dX8_outline_98 : decode cX8_outline 98 = .ok (.ireturn, 1) := by decide +kernel
theorem dX8_countUntagged_0 : decode cX8_countUntagged 0 = .ok (.iconst 0, 1) := by decide +kernel
theorem dX8_countUntagged_1 : decode cX8_countUntagged 1 = .ok (.istore_n 1, 1) := by decide +kernel
theorem dX8_countUntagged_2 : decode cX8_countUntagged 2 = .ok (.iconst 0, 1) := by decide +kernel
theorem dX8_countUntagged_3 : decode cX8_countUntagged 3 = .ok (.istore_n 2, 1) := by decide +kernel
theorem dX8_countUntagged_4 : decode cX8_countUntagged 4 = .ok (.iload_n 2, 1) := by decide +kernel
theorem dX8_countUntagged_5 : decode cX8_countUntagged 5 = .ok (.aload_n 0, 1) := by decide +kernel
theorem dX8_countUntagged_6 : decode cX8_countUntagged 6 = .ok (.getfield 109, 3) := by decide +kernel
theorem dX8_countUntagged_9 : decode cX8_countUntagged 9 = .ok (.if_icmp .ge 31, 3) := by decide +kernel
theorem dX8_countUntagged_12 : decode cX8_countUntagged 12 = .ok (.aload_n 0, 1) := by decide +kernel
theorem dX8_countUntagged_13 : decode cX8_countUntagged 13 = .ok (.aload_n 0, 1) := by decide +kernel
theorem dX8_countUntagged_14 : decode cX8_countUntagged 14 = .ok (.getfield 45, 3) := by decide +kernel
theorem dX8_countUntagged_17 : decode cX8_countUntagged 17 = .ok (.iload_n 2, 1) := by decide +kernel
theorem dX8_countUntagged_18 : decode cX8_countUntagged 18 = .ok (.iaload, 1) := by decide +kernel
theorem dX8_countUntagged_19 : decode cX8_countUntagged 19 = .ok (.invokevirtual 99, 3) := by decide +kernel
theorem dX8_countUntagged_22 : decode cX8_countUntagged 22 = .ok (.iconst (-1), 1) := by decide +kernel
theorem dX8_countUntagged_23 : decode cX8_countUntagged 23 = .ok (.if_icmp .ne 9, 3) := by decide +kernel
theorem dX8_countUntagged_26 : decode cX8_countUntagged 26 = .ok (.iload_n 1, 1) := by decide +kernel
theorem dX8_countUntagged_27 : decode cX8_countUntagged 27 = .ok (.iconst 1, 1) := by decide +kernel
theorem dX8_countUntagged_28 : decode cX8_countUntagged 28 = .ok (.iadd, 1) := by decide +kernel
theorem dX8_countUntagged_29 : decode cX8_countUntagged 29 = .ok (.goto 4, 3) := by decide +kernel
theorem dX8_countUntagged_32 : decode cX8_countUntagged 32 = .ok (.iload_n 1, 1) := by decide +kernel
theorem dX8_countUntagged_33 : decode cX8_countUntagged 33 = .ok (.istore_n 1, 1) := by decide +kernel
theorem dX8_countUntagged_34 : decode cX8_countUntagged 34 = .ok (.iinc 2 1, 3) := by decide +kernel
theorem dX8_countUntagged_37 : decode cX8_countUntagged 37 = .ok (.goto (-33), 3) := by decide +kernel
theorem dX8_countUntagged_40 : decode cX8_countUntagged 40 = .ok (.iload_n 1, 1) := by decide +kernel
theorem dX8_countUntagged_41 : decode cX8_countUntagged 41 = .ok (.ireturn, 1) := by decide +kernel
theorem dX8_untaggedAt_0 : decode cX8_untaggedAt 0 = .ok (.iconst 0, 1) := by decide +kernel
theorem dX8_untaggedAt_1 : decode cX8_untaggedAt 1 = .ok (.istore_n 2, 1) := by decide +kernel
theorem dX8_untaggedAt_2 : decode cX8_untaggedAt 2 = .ok (.iconst (-1), 1) := by decide +kernel
theorem dX8_untaggedAt_3 : decode cX8_untaggedAt 3 = .ok (.istore_n 3, 1) := by decide +kernel
theorem dX8_untaggedAt_4 : decode cX8_untaggedAt 4 = .ok (.iconst 0, 1) := by decide +kernel
theorem dX8_untaggedAt_5 : decode cX8_untaggedAt 5 = .ok (.istore 4, 2) := by decide +kernel
theorem dX8_untaggedAt_7 : decode cX8_untaggedAt 7 = .ok (.iload 4, 2) := by decide +kernel
theorem dX8_untaggedAt_9 : decode cX8_untaggedAt 9 = .ok (.bipush 10, 2) := by decide +kernel
theorem dX8_untaggedAt_11 : decode cX8_untaggedAt 11 = .ok (.if_icmp .ge 77, 3) := by decide +kernel
theorem dX8_untaggedAt_14 : decode cX8_untaggedAt 14 = .ok (.iconst 0, 1) := by decide +kernel
theorem dX8_untaggedAt_15 : decode cX8_untaggedAt 15 = .ok (.istore 5, 2) := by decide +kernel
theorem dX8_untaggedAt_17 : decode cX8_untaggedAt 17 = .ok (.iload 5, 2) := by decide +kernel
theorem dX8_untaggedAt_19 : decode cX8_untaggedAt 19 = .ok (.aload_n 0, 1) := by decide +kernel
theorem dX8_untaggedAt_20 : decode cX8_untaggedAt 20 = .ok (.getfield 109, 3) := by decide +kernel
theorem dX8_untaggedAt_23 : decode cX8_untaggedAt 23 = .ok (.if_icmp .ge 59, 3) := by decide +kernel
theorem dX8_untaggedAt_26 : decode cX8_untaggedAt 26 = .ok (.aload_n 0, 1) := by decide +kernel
theorem dX8_untaggedAt_27 : decode cX8_untaggedAt 27 = .ok (.getfield 45, 3) := by decide +kernel
theorem dX8_untaggedAt_30 : decode cX8_untaggedAt 30 = .ok (.iload 5, 2) := by decide +kernel
theorem dX8_untaggedAt_32 : decode cX8_untaggedAt 32 = .ok (.iaload, 1) := by decide +kernel
theorem dX8_untaggedAt_33 : decode cX8_untaggedAt 33 = .ok (.bipush 20, 2) := by decide +kernel
theorem dX8_untaggedAt_35 : decode cX8_untaggedAt 35 = .ok (.idiv, 1) := by decide +kernel
theorem dX8_untaggedAt_36 : decode cX8_untaggedAt 36 = .ok (.iload 4, 2) := by decide +kernel
theorem dX8_untaggedAt_38 : decode cX8_untaggedAt 38 = .ok (.if_icmp .ne 38, 3) := by decide +kernel
theorem dX8_untaggedAt_41 : decode cX8_untaggedAt 41 = .ok (.aload_n 0, 1) := by decide +kernel
theorem dX8_untaggedAt_42 : decode cX8_untaggedAt 42 = .ok (.aload_n 0, 1) := by decide +kernel
theorem dX8_untaggedAt_43 : decode cX8_untaggedAt 43 = .ok (.getfield 45, 3) := by decide +kernel
theorem dX8_untaggedAt_46 : decode cX8_untaggedAt 46 = .ok (.iload 5, 2) := by decide +kernel
theorem dX8_untaggedAt_48 : decode cX8_untaggedAt 48 = .ok (.iaload, 1) := by decide +kernel
theorem dX8_untaggedAt_49 : decode cX8_untaggedAt 49 = .ok (.invokevirtual 99, 3) := by decide +kernel
theorem dX8_untaggedAt_52 : decode cX8_untaggedAt 52 = .ok (.iconst (-1), 1) := by decide +kernel
theorem dX8_untaggedAt_53 : decode cX8_untaggedAt 53 = .ok (.if_icmp .ne 23, 3) := by decide +kernel
theorem dX8_untaggedAt_56 : decode cX8_untaggedAt 56 = .ok (.iload_n 2, 1) := by decide +kernel
theorem dX8_untaggedAt_57 : decode cX8_untaggedAt 57 = .ok (.iload_n 1, 1) := by decide +kernel
theorem dX8_untaggedAt_58 : decode cX8_untaggedAt 58 = .ok (.if_icmp .ne 13, 3) := by decide +kernel
theorem dX8_untaggedAt_61 : decode cX8_untaggedAt 61 = .ok (.aload_n 0, 1) := by decide +kernel
theorem dX8_untaggedAt_62 : decode cX8_untaggedAt 62 = .ok (.getfield 45, 3) := by decide +kernel
theorem dX8_untaggedAt_65 : decode cX8_untaggedAt 65 = .ok (.iload 5, 2) := by decide +kernel
theorem dX8_untaggedAt_67 : decode cX8_untaggedAt 67 = .ok (.iaload, 1) := by decide +kernel
theorem dX8_untaggedAt_68 : decode cX8_untaggedAt 68 = .ok (.goto 4, 3) := by decide +kernel
theorem dX8_untaggedAt_71 : decode cX8_untaggedAt 71 = .ok (.iload_n 3, 1) := by decide +kernel
theorem dX8_untaggedAt_72 : decode cX8_untaggedAt 72 = .ok (.istore_n 3, 1) := by decide +kernel
theorem dX8_untaggedAt_73 : decode cX8_untaggedAt 73 = .ok (.iinc 2 1, 3) := by decide +kernel
theorem dX8_untaggedAt_76 : decode cX8_untaggedAt 76 = .ok (.iinc 5 1, 3) := by decide +kernel
theorem dX8_untaggedAt_79 : decode cX8_untaggedAt 79 = .ok (.goto (-62), 3) := by decide +kernel
theorem dX8_untaggedAt_82 : decode cX8_untaggedAt 82 = .ok (.iinc 4 1, 3) := by decide +kernel
theorem dX8_untaggedAt_85 : decode cX8_untaggedAt 85 = .ok (.goto (-78), 3) := by decide +kernel
theorem dX8_untaggedAt_88 : decode cX8_untaggedAt 88 = .ok (.iload_n 3, 1) := by decide +kernel
theorem dX8_untaggedAt_89 : decode cX8_untaggedAt 89 = .ok (.ireturn, 1) := by decide +kernel
theorem dX8_untagged_0 : decode cX8_untagged 0 = .ok (.aload_n 0, 1) := by decide +kernel
theorem dX8_untagged_1 : decode cX8_untagged 1 = .ok (.iconst 0, 1) := by decide +kernel
theorem dX8_untagged_2 : decode cX8_untagged 2 = .ok (.putfield 78, 3) := by decide +kernel
theorem dX8_untagged_5 : decode cX8_untagged 5 = .ok (.iload_n 1, 1) := by decide +kernel
theorem dX8_untagged_6 : decode cX8_untagged 6 = .ok (.iconst (-1), 1) := by decide +kernel
theorem dX8_untagged_7 : decode cX8_untagged 7 = .ok (.if_icmp .ne 8, 3) := by decide +kernel
theorem dX8_untagged_10 : decode cX8_untagged 10 = .ok (.aload_n 0, 1) := by decide +kernel
theorem dX8_untagged_11 : decode cX8_untagged 11 = .ok (.invokevirtual 173, 3) := by decide +kernel
theorem dX8_untagged_14 : decode cX8_untagged 14 = .ok (.ireturn, 1) := by decide +kernel
theorem dX8_untagged_15 : decode cX8_untagged 15 = .ok (.iload_n 1, 1) := by decide +kernel
theorem dX8_untagged_16 : decode cX8_untagged 16 = .ok (.ifCond .ge 7, 3) := by decide +kernel
theorem dX8_untagged_19 : decode cX8_untagged 19 = .ok (.iconst (-1), 1) := by decide +kernel
theorem dX8_untagged_20 : decode cX8_untagged 20 = .ok (.goto 8, 3) := by decide +kernel
theorem dX8_untagged_23 : decode cX8_untagged 23 = .ok (.aload_n 0, 1) := by decide +kernel
theorem dX8_untagged_24 : decode cX8_untagged 24 = .ok (.iload_n 1, 1) := by decide +kernel
theorem dX8_untagged_25 : decode cX8_untagged 25 = .ok (.invokevirtual 177, 3) := by decide +kernel
theorem dX8_untagged_28 : decode cX8_untagged 28 = .ok (.istore_n 2, 1) := by decide +kernel
theorem dX8_untagged_29 : decode cX8_untagged 29 = .ok (.aload_n 0, 1) := by decide +kernel
theorem dX8_untagged_30 : decode cX8_untagged 30 = .ok (.iload_n 2, 1) := by decide +kernel
theorem dX8_untagged_31 : decode cX8_untagged 31 = .ok (.iconst (-1), 1) := by decide +kernel
theorem dX8_untagged_32 : decode cX8_untagged 32 = .ok (.if_icmp .ne 7, 3) := by decide +kernel
theorem dX8_untagged_35 : decode cX8_untagged 35 = .ok (.iconst 1, 1) := by decide +kernel
theorem dX8_untagged_36 : decode cX8_untagged 36 = .ok (.goto 4, 3) := by decide +kernel
theorem dX8_untagged_39 : decode cX8_untagged 39 = .ok (.iconst 0, 1) := by decide +kernel
theorem dX8_untagged_40 : decode cX8_untagged 40 = .ok (.putfield 78, 3) := by decide +kernel
theorem dX8_untagged_43 : decode cX8_untagged 43 = .ok (.aload_n 0, 1) := by decide +kernel
theorem dX8_untagged_44 : decode cX8_untagged 44 = .ok (.getfield 78, 3) := by decide +kernel
theorem dX8_untagged_47 : decode cX8_untagged 47 = .ok (.ifCond .le 7, 3) := by decide +kernel
theorem dX8_untagged_50 : decode cX8_untagged 50 = .ok (.iconst 0, 1) := by decide +kernel
theorem dX8_untagged_51 : decode cX8_untagged 51 = .ok (.goto 4, 3) := by decide +kernel
theorem dX8_untagged_54 : decode cX8_untagged 54 = .ok (.iload_n 2, 1) := by decide +kernel
theorem dX8_untagged_55 : decode cX8_untagged 55 = .ok (.ireturn, 1) := by decide +kernel
