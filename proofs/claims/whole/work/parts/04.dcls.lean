theorem dX7_init_0 : decode cX7_init 0 = .ok (.aload_n 0, 1) := by decide +kernel
theorem dX7_init_1 : decode cX7_init 1 = .ok (.invokespecial 3, 3) := by decide +kernel
theorem dX7_init_4 : decode cX7_init 4 = .ok (.aload_n 0, 1) := by decide +kernel
theorem dX7_init_5 : decode cX7_init 5 = .ok (.new 9, 3) := by decide +kernel
theorem dX7_init_8 : decode cX7_init 8 = .ok (.dup, 1) := by decide +kernel
theorem dX7_init_9 : decode cX7_init 9 = .ok (.invokespecial 11, 3) := by decide +kernel
theorem dX7_init_12 : decode cX7_init 12 = .ok (.putfield 12, 3) := by decide +kernel
theorem dX7_init_15 : decode cX7_init 15 = .ok (.aload_n 0, 1) := by decide +kernel
theorem dX7_init_16 : decode cX7_init 16 = .ok (.new 16, 3) := by decide +kernel
theorem dX7_init_19 : decode cX7_init 19 = .ok (.dup, 1) := by decide +kernel
theorem dX7_init_20 : decode cX7_init 20 = .ok (.aload_n 0, 1) := by decide +kernel
theorem dX7_init_21 : decode cX7_init 21 = .ok (.getfield 12, 3) := by decide +kernel
theorem dX7_init_24 : decode cX7_init 24 = .ok (.invokespecial 18, 3) := by decide +kernel
theorem dX7_init_27 : decode cX7_init 27 = .ok (.putfield 21, 3) := by decide +kernel
theorem dX7_init_30 : decode cX7_init 30 = .ok (.aload_n 0, 1) := by decide +kernel
theorem dX7_init_31 : decode cX7_init 31 = .ok (.new 25, 3) := by decide +kernel
theorem dX7_init_34 : decode cX7_init 34 = .ok (.dup, 1) := by decide +kernel
theorem dX7_init_35 : decode cX7_init 35 = .ok (.aload_n 0, 1) := by decide +kernel
theorem dX7_init_36 : decode cX7_init 36 = .ok (.getfield 21, 3) := by decide +kernel
theorem dX7_init_39 : decode cX7_init 39 = .ok (.invokespecial 27, 3) := by decide +kernel
theorem dX7_init_42 : decode cX7_init 42 = .ok (.putfield 30, 3) := by decide +kernel
theorem dX7_init_45 : decode cX7_init 45 = .ok (.aload_n 0, 1) := by decide +kernel
theorem dX7_init_46 : decode cX7_init 46 = .ok (.new 34, 3) := by decide +kernel
theorem dX7_init_49 : decode cX7_init 49 = .ok (.dup, 1) := by decide +kernel
theorem dX7_init_50 : decode cX7_init 50 = .ok (.invokespecial 36, 3) := by decide +kernel
theorem dX7_init_53 : decode cX7_init 53 = .ok (.putfield 37, 3) := by decide +kernel
theorem dX7_init_56 : decode cX7_init 56 = .ok (.aload_n 0, 1) := by decide +kernel
theorem dX7_init_57 : decode cX7_init 57 = .ok (.new 41, 3) := by decide +kernel
theorem dX7_init_60 : decode cX7_init 60 = .ok (.dup, 1) := by decide +kernel
theorem dX7_init_61 : decode cX7_init 61 = .ok (.invokespecial 43, 3) := by decide +kernel
theorem dX7_init_64 : decode cX7_init 64 = .ok (.putfield 44, 3) := by decide +kernel
theorem dX7_init_67 : decode cX7_init 67 = .ok (.aload_n 0, 1) := by decide +kernel
theorem dX7_init_68 : decode cX7_init 68 = .ok (.new 48, 3) := by decide +kernel
theorem dX7_init_71 : decode cX7_init 71 = .ok (.dup, 1) := by decide +kernel
theorem dX7_init_72 : decode cX7_init 72 = .ok (.invokespecial 50, 3) := by decide +kernel
theorem dX7_init_75 : decode cX7_init 75 = .ok (.putfield 51, 3) := by decide +kernel
theorem dX7_init_78 : decode cX7_init 78 = .ok (.aload_n 0, 1) := by decide +kernel
theorem dX7_init_79 : decode cX7_init 79 = .ok (.new 55, 3) := by decide +kernel
theorem dX7_init_82 : decode cX7_init 82 = .ok (.dup, 1) := by decide +kernel
theorem dX7_init_83 : decode cX7_init 83 = .ok (.invokespecial 57, 3) := by decide +kernel
theorem dX7_init_86 : decode cX7_init 86 = .ok (.putfield 58, 3) := by decide +kernel
theorem dX7_init_89 : decode cX7_init 89 = .ok (.aload_n 0, 1) := by decide +kernel
theorem dX7_init_90 : decode cX7_init 90 = .ok (.bipush 60, 2) := by decide +kernel
theorem dX7_init_92 : decode cX7_init 92 = .ok (.newarray .int, 2) := by decide +kernel
theorem dX7_init_94 : decode cX7_init 94 = .ok (.putfield 62, 3) := by decide +kernel
theorem dX7_init_97 : decode cX7_init 97 = .ok (.aload_n 0, 1) := by decide +kernel
theorem dX7_init_98 : decode cX7_init 98 = .ok (.bipush 60, 2) := by decide +kernel
theorem dX7_init_100 : decode cX7_init 100 = .ok (.newarray .boolean, 2) := by decide +kernel
theorem dX7_init_102 : decode cX7_init 102 = .ok (.putfield 66, 3) := by decide +kernel
theorem dX7_init_105 : decode cX7_init 105 = .ok (.aload_n 0, 1) := by decide +kernel
theorem dX7_init_106 : decode cX7_init 106 = .ok (.bipush 60, 2) := by decide +kernel
theorem dX7_init_108 : decode cX7_init 108 = .ok (.newarray .int, 2) := by decide +kernel
theorem dX7_init_110 : decode cX7_init 110 = .ok (.putfield 70, 3) := by decide +kernel
theorem dX7_init_113 : decode cX7_init 113 = .ok (.aload_n 0, 1) := by decide +kernel
theorem dX7_init_114 : decode cX7_init 114 = .ok (.bipush 60, 2) := by decide +kernel
theorem dX7_init_116 : decode cX7_init 116 = .ok (.newarray .int, 2) := by decide +kernel
theorem dX7_init_118 : decode cX7_init 118 = .ok (.putfield 73, 3) := by decide +kernel
theorem dX7_init_121 : decode cX7_init 121 = .ok (.aload_n 0, 1) := by decide +kernel
theorem dX7_init_122 : decode cX7_init 122 = .ok (.bipush 40, 2) := by decide +kernel
theorem dX7_init_124 : decode cX7_init 124 = .ok (.newarray .int, 2) := by decide +kernel
theorem dX7_init_126 : decode cX7_init 126 = .ok (.putfield 76, 3) := by decide +kernel
theorem dX7_init_129 : decode cX7_init 129 = .ok (.aload_n 0, 1) := by decide +kernel
theorem dX7_init_130 : decode cX7_init 130 = .ok (.bipush 40, 2) := by decide +kernel
theorem dX7_init_132 : decode cX7_init 132 = .ok (.newarray .int, 2) := by decide +kernel
theorem dX7_init_134 : decode cX7_init 134 = .ok (.putfield 79, 3) := by decide +kernel
theorem dX7_init_137 : decode cX7_init 137 = .ok (.aload_n 0, 1) := by decide +kernel
theorem dX7_init_138 : decode cX7_init 138 = .ok (.iconst 0, 1) := by decide +kernel
theorem dX7_init_139 : decode cX7_init 139 = .ok (.putfield 82, 3) := by decide +kernel
theorem dX7_init_142 : decode cX7_init 142 = .ok (.aload_n 0, 1) := by decide +kernel
theorem dX7_init_143 : decode cX7_init 143 = .ok (.sipush 200, 3) := by decide +kernel
theorem dX7_init_146 : decode cX7_init 146 = .ok (.newarray .int, 2) := by decide +kernel
theorem dX7_init_148 : decode cX7_init 148 = .ok (.putfield 86, 3) := by decide +kernel
theorem dX7_init_151 : decode cX7_init 151 = .ok (.aload_n 0, 1) := by decide +kernel
theorem dX7_init_152 : decode cX7_init 152 = .ok (.iconst 0, 1) := by decide +kernel
theorem dX7_init_153 : decode cX7_init 153 = .ok (.putfield 89, 3) := by decide +kernel
theorem dX7_init_156 : decode cX7_init 156 = .ok (.aload_n 0, 1) := by decide +kernel
theorem dX7_init_157 : decode cX7_init 157 = .ok (.bipush 10, 2) := by decide +kernel
theorem dX7_init_159 : decode cX7_init 159 = .ok (.newarray .int, 2) := by decide +kernel
theorem dX7_init_161 : decode cX7_init 161 = .ok (.putfield 92, 3) := by decide +kernel
theorem dX7_init_164 : decode cX7_init 164 = .ok (.aload_n 0, 1) := by decide +kernel
theorem dX7_init_165 : decode cX7_init 165 = .ok (.getfield 70, 3) := by decide +kernel
theorem dX7_init_168 : decode cX7_init 168 = .ok (.iconst 1, 1) := by decide +kernel
theorem dX7_init_169 : decode cX7_init 169 = .ok (.invokestatic 95, 3) := by decide +kernel
theorem dX7_init_172 : decode cX7_init 172 = .ok (.aload_n 0, 1) := by decide +kernel
theorem dX7_init_173 : decode cX7_init 173 = .ok (.getfield 73, 3) := by decide +kernel
theorem dX7_init_176 : decode cX7_init 176 = .ok (.iconst 1, 1) := by decide +kernel
theorem dX7_init_177 : decode cX7_init 177 = .ok (.invokestatic 95, 3) := by decide +kernel
theorem dX7_init_180 : decode cX7_init 180 = .ok (.return_, 1) := by decide +kernel
theorem dX7_element_0 : decode cX7_element 0 = .ok (.aload_n 0, 1) := by decide +kernel
theorem dX7_element_1 : decode cX7_element 1 = .ok (.iload_n 1, 1) := by decide +kernel
theorem dX7_element_2 : decode cX7_element 2 = .ok (.invokevirtual 101, 3) := by decide +kernel
theorem dX7_element_5 : decode cX7_element 5 = .ok (.iload_n 2, 1) := by decide +kernel
theorem dX7_element_6 : decode cX7_element 6 = .ok (.ifCond .eq 10, 3) := by decide +kernel
theorem dX7_element_9 : decode cX7_element 9 = .ok (.iload_n 2, 1) := by decide +kernel
theorem dX7_element_10 : decode cX7_element 10 = .ok (.invokestatic 105, 3) := by decide +kernel
theorem dX7_element_13 : decode cX7_element 13 = .ok (.ifCond .ne 13, 3) := by decide +kernel
theorem dX7_element_16 : decode cX7_element 16 = .ok (.new 109, 3) := by decide +kernel
theorem dX7_element_19 : decode cX7_element 19 = .ok (.dup, 1) := by decide +kernel
theorem dX7_element_20 : decode cX7_element 20 = .ok (.ldc 111, 2) := by decide +kernel
theorem dX7_element_22 : decode cX7_element 22 = .ok (.invokespecial 113, 3) := by decide +kernel
theorem dX7_element_25 : decode cX7_element 25 = .ok (.athrow, 1) := by decide +kernel
theorem dX7_element_26 : decode cX7_element 26 = .ok (.aload_n 0, 1) := by decide +kernel
theorem dX7_element_27 : decode cX7_element 27 = .ok (.getfield 21, 3) := by decide +kernel
theorem dX7_element_30 : decode cX7_element 30 = .ok (.getfield 116, 3) := by decide +kernel
theorem dX7_element_33 : decode cX7_element 33 = .ok (.bipush 60, 2) := by decide +kernel
theorem dX7_element_35 : decode cX7_element 35 = .ok (.if_icmp .lt 13, 3) := by decide +kernel
theorem dX7_element_38 : decode cX7_element 38 = .ok (.new 119, 3) := by decide +kernel
theorem dX7_element_41 : decode cX7_element 41 = .ok (.dup, 1) := by decide +kernel
theorem dX7_element_42 : decode cX7_element 42 = .ok (.ldc 121, 2) := by decide +kernel
theorem dX7_element_44 : decode cX7_element 44 = .ok (.invokespecial 123, 3) := by decide +kernel
theorem dX7_element_47 : decode cX7_element 47 = .ok (.athrow, 1) := by decide +kernel
theorem dX7_element_48 : decode cX7_element 48 = .ok (.aload_n 0, 1) := by decide +kernel
theorem dX7_element_49 : decode cX7_element 49 = .ok (.getfield 21, 3) := by decide +kernel
theorem dX7_element_52 : decode cX7_element 52 = .ok (.iload_n 1, 1) := by decide +kernel
theorem dX7_element_53 : decode cX7_element 53 = .ok (.iload_n 2, 1) := by decide +kernel
theorem dX7_element_54 : decode cX7_element 54 = .ok (.invokevirtual 124, 3) := by decide +kernel
theorem dX7_element_57 : decode cX7_element 57 = .ok (.ireturn, 1) := by decide +kernel
theorem dX7_map_0 : decode cX7_map 0 = .ok (.iload_n 1, 1) := by decide +kernel
theorem dX7_map_1 : decode cX7_map 1 = .ok (.invokestatic 128, 3) := by decide +kernel
theorem dX7_map_4 : decode cX7_map 4 = .ok (.ifCond .eq 10, 3) := by decide +kernel
theorem dX7_map_7 : decode cX7_map 7 = .ok (.iload_n 2, 1) := by decide +kernel
theorem dX7_map_8 : decode cX7_map 8 = .ok (.invokestatic 105, 3) := by decide +kernel
theorem dX7_map_11 : decode cX7_map 11 = .ok (.ifCond .ne 13, 3) := by decide +kernel
theorem dX7_map_14 : decode cX7_map 14 = .ok (.new 109, 3) := by decide +kernel
theorem dX7_map_17 : decode cX7_map 17 = .ok (.dup, 1) := by decide +kernel
theorem dX7_map_18 : decode cX7_map 18 = .ok (.ldc 131, 2) := by decide +kernel
theorem dX7_map_20 : decode cX7_map 20 = .ok (.invokespecial 113, 3) := by decide +kernel
theorem dX7_map_23 : decode cX7_map 23 = .ok (.athrow, 1) := by decide +kernel
theorem dX7_map_24 : decode cX7_map 24 = .ok (.aload_n 0, 1) := by decide +kernel
theorem dX7_map_25 : decode cX7_map 25 = .ok (.getfield 12, 3) := by decide +kernel
theorem dX7_map_28 : decode cX7_map 28 = .ok (.iload_n 2, 1) := by decide +kernel
theorem dX7_map_29 : decode cX7_map 29 = .ok (.iload_n 1, 1) := by decide +kernel
theorem dX7_map_30 : decode cX7_map 30 = .ok (.invokevirtual 133, 3) := by decide +kernel
theorem dX7_map_33 : decode cX7_map 33 = .ok (.ifCond .eq 5, 3) := by decide +kernel
theorem dX7_map_36 : decode cX7_map 36 = .ok (.iconst 0, 1) := by decide +kernel
theorem dX7_map_37 : decode cX7_map 37 = .ok (.ireturn, 1) := by decide +kernel
theorem dX7_map_38 : decode cX7_map 38 = .ok (.aload_n 0, 1) := by decide +kernel
theorem dX7_map_39 : decode cX7_map 39 = .ok (.getfield 12, 3) := by decide +kernel
theorem dX7_map_42 : decode cX7_map 42 = .ok (.iload_n 1, 1) := by decide +kernel
theorem dX7_map_43 : decode cX7_map 43 = .ok (.iload_n 2, 1) := by decide +kernel
theorem dX7_map_44 : decode cX7_map 44 = .ok (.invokevirtual 137, 3) := by decide +kernel
theorem dX7_map_47 : decode cX7_map 47 = .ok (.iconst 1, 1) := by decide +kernel
theorem dX7_map_48 : decode cX7_map 48 = .ok (.ireturn, 1) := by decide +kernel
theorem dX7_content_0 : decode cX7_content 0 = .ok (.aload_n 0, 1) := by decide +kernel
theorem dX7_content_1 : decode cX7_content 1 = .ok (.iload_n 1, 1) := by decide +kernel
theorem dX7_content_2 : decode cX7_content 2 = .ok (.invokevirtual 101, 3) := by decide +kernel
theorem dX7_content_5 : decode cX7_content 5 = .ok (.iload_n 2, 1) := by decide +kernel
theorem dX7_content_6 : decode cX7_content 6 = .ok (.iload_n 3, 1) := by decide +kernel
theorem dX7_content_7 : decode cX7_content 7 = .ok (.invokestatic 141, 3) := by decide +kernel
theorem dX7_content_10 : decode cX7_content 10 = .ok (.istore 4, 2) := by decide +kernel
theorem dX7_content_12 : decode cX7_content 12 = .ok (.aload_n 0, 1) := by decide +kernel
theorem dX7_content_13 : decode cX7_content 13 = .ok (.getfield 21, 3) := by decide +kernel
theorem dX7_content_16 : decode cX7_content 16 = .ok (.iload 4, 2) := by decide +kernel
theorem dX7_content_18 : decode cX7_content 18 = .ok (.invokevirtual 144, 3) := by decide +kernel
theorem dX7_content_21 : decode cX7_content 21 = .ok (.iconst (-1), 1) := by decide +kernel
theorem dX7_content_22 : decode cX7_content 22 = .ok (.if_icmp .eq 12, 3) := by decide +kernel
theorem dX7_content_25 : decode cX7_content 25 = .ok (.aload_n 0, 1) := by decide +kernel
theorem dX7_content_26 : decode cX7_content 26 = .ok (.iload_n 1, 1) := by decide +kernel
theorem dX7_content_27 : decode cX7_content 27 = .ok (.iload 4, 2) := by decide +kernel
theorem dX7_content_29 : decode cX7_content 29 = .ok (.invokevirtual 148, 3) := by decide +kernel
theorem dX7_content_32 : decode cX7_content 32 = .ok (.iconst 0, 1) := by decide +kernel
theorem dX7_content_33 : decode cX7_content 33 = .ok (.ireturn, 1) := by decide +kernel
theorem dX7_content_34 : decode cX7_content 34 = .ok (.aload_n 0, 1) := by decide +kernel
theorem dX7_content_35 : decode cX7_content 35 = .ok (.getfield 21, 3) := by decide +kernel
theorem dX7_content_38 : decode cX7_content 38 = .ok (.getfield 151, 3) := by decide +kernel
theorem dX7_content_41 : decode cX7_content 41 = .ok (.bipush 100, 2) := by decide +kernel
theorem dX7_content_43 : decode cX7_content 43 = .ok (.if_icmp .lt 13, 3) := by decide +kernel
theorem dX7_content_46 : decode cX7_content 46 = .ok (.new 119, 3) := by decide +kernel
theorem dX7_content_49 : decode cX7_content 49 = .ok (.dup, 1) := by decide +kernel
theorem dX7_content_50 : decode cX7_content 50 = .ok (.ldc 154, 2) := by decide +kernel
theorem dX7_content_52 : decode cX7_content 52 = .ok (.invokespecial 123, 3) := by decide +kernel
theorem dX7_content_55 : decode cX7_content 55 = .ok (.athrow, 1) := by decide +kernel
theorem dX7_content_56 : decode cX7_content 56 = .ok (.aload_n 0, 1) := by decide +kernel
theorem dX7_content_57 : decode cX7_content 57 = .ok (.getfield 21, 3) := by decide +kernel
theorem dX7_content_60 : decode cX7_content 60 = .ok (.iload_n 1, 1) := by decide +kernel
theorem dX7_content_61 : decode cX7_content 61 = .ok (.iload 4, 2) := by decide +kernel
theorem dX7_content_63 : decode cX7_content 63 = .ok (.invokevirtual 156, 3) := by decide +kernel
theorem dX7_content_66 : decode cX7_content 66 = .ok (.iconst 1, 1) := by decide +kernel
theorem dX7_content_67 : decode cX7_content 67 = .ok (.ireturn, 1) := by decide +kernel
theorem dX7_shows_0 : decode cX7_shows 0 = .ok (.iload_n 1, 1) := by decide +kernel
theorem dX7_shows_1 : decode cX7_shows 1 = .ok (.iload_n 2, 1) := by decide +kernel
theorem dX7_shows_2 : decode cX7_shows 2 = .ok (.invokestatic 141, 3) := by decide +kernel
theorem dX7_shows_5 : decode cX7_shows 5 = .ok (.pop, 1) := by decide +kernel
theorem dX7_shows_6 : decode cX7_shows 6 = .ok (.aload_n 0, 1) := by decide +kernel
theorem dX7_shows_7 : decode cX7_shows 7 = .ok (.getfield 37, 3) := by decide +kernel
theorem dX7_shows_10 : decode cX7_shows 10 = .ok (.iload_n 1, 1) := by decide +kernel
theorem dX7_shows_11 : decode cX7_shows 11 = .ok (.iload_n 2, 1) := by decide +kernel
theorem dX7_shows_12 : decode cX7_shows 12 = .ok (.invokevirtual 159, 3) := by decide +kernel
theorem dX7_shows_15 : decode cX7_shows 15 = .ok (.ireturn, 1) := by decide +kernel
theorem dX7_walk_0 : decode cX7_walk 0 = .ok (.aload_n 0, 1) := by decide +kernel
theorem dX7_walk_1 : decode cX7_walk 1 = .ok (.getfield 30, 3) := by decide +kernel
theorem dX7_walk_4 : decode cX7_walk 4 = .ok (.invokevirtual 162, 3) := by decide +kernel
theorem dX7_walk_7 : decode cX7_walk 7 = .ok (.aload_n 0, 1) := by decide +kernel
theorem dX7_walk_8 : decode cX7_walk 8 = .ok (.getfield 30, 3) := by decide +kernel
theorem dX7_walk_11 : decode cX7_walk 11 = .ok (.getfield 165, 3) := by decide +kernel
theorem dX7_walk_14 : decode cX7_walk 14 = .ok (.ireturn, 1) := by decide +kernel
theorem dX7_at_0 : decode cX7_at 0 = .ok (.iload_n 2, 1) := by decide +kernel
theorem dX7_at_1 : decode cX7_at 1 = .ok (.invokestatic 166, 3) := by decide +kernel
theorem dX7_at_4 : decode cX7_at 4 = .ok (.aload_n 0, 1) := by decide +kernel
theorem dX7_at_5 : decode cX7_at 5 = .ok (.getfield 30, 3) := by decide +kernel
theorem dX7_at_8 : decode cX7_at 8 = .ok (.invokevirtual 162, 3) := by decide +kernel
theorem dX7_at_11 : decode cX7_at 11 = .ok (.iload_n 1, 1) := by decide +kernel
theorem dX7_at_12 : decode cX7_at 12 = .ok (.ifCond .lt 14, 3) := by decide +kernel
theorem dX7_at_15 : decode cX7_at 15 = .ok (.iload_n 1, 1) := by decide +kernel
theorem dX7_at_16 : decode cX7_at 16 = .ok (.aload_n 0, 1) := by decide +kernel
theorem dX7_at_17 : decode cX7_at 17 = .ok (.getfield 30, 3) := by decide +kernel
theorem dX7_at_20 : decode cX7_at 20 = .ok (.getfield 165, 3) := by decide +kernel
theorem dX7_at_23 : decode cX7_at 23 = .ok (.if_icmp .lt 13, 3) := by decide +kernel
theorem dX7_at_26 : decode cX7_at 26 = .ok (.new 169, 3) := by decide +kernel
theorem dX7_at_29 : decode cX7_at 29 = .ok (.dup, 1) := by decide +kernel
theorem dX7_at_30 : decode cX7_at 30 = .ok (.ldc 171, 2) := by decide +kernel
theorem dX7_at_32 : decode cX7_at 32 = .ok (.invokespecial 173, 3) := by decide +kernel
theorem dX7_at_35 : decode cX7_at 35 = .ok (.athrow, 1) := by decide +kernel
theorem dX7_at_36 : decode cX7_at 36 = .ok (.aload_n 0, 1) := by decide +kernel
theorem dX7_at_37 : decode cX7_at 37 = .ok (.getfield 30, 3) := by decide +kernel
theorem dX7_at_40 : decode cX7_at 40 = .ok (.getfield 174, 3) := by decide +kernel
theorem dX7_at_43 : decode cX7_at 43 = .ok (.iload_n 1, 1) := by decide +kernel
theorem dX7_at_44 : decode cX7_at 44 = .ok (.iaload, 1) := by decide +kernel
theorem dX7_at_45 : decode cX7_at 45 = .ok (.istore_n 3, 1) := by decide +kernel
theorem dX7_at_46 : decode cX7_at 46 = .ok (.iload_n 2, 1) := by decide +kernel
theorem dX7_at_47 : decode cX7_at 47 = .ok (.ifCond .ne 10, 3) := by decide +kernel
theorem dX7_at_50 : decode cX7_at 50 = .ok (.iload_n 3, 1) := by decide +kernel
theorem dX7_at_51 : decode cX7_at 51 = .ok (.bipush 20, 2) := by decide +kernel
theorem dX7_at_53 : decode cX7_at 53 = .ok (.idiv, 1) := by decide +kernel
theorem dX7_at_54 : decode cX7_at 54 = .ok (.goto 23, 3) := by decide +kernel
theorem dX7_at_57 : decode cX7_at 57 = .ok (.iload_n 2, 1) := by decide +kernel
theorem dX7_at_58 : decode cX7_at 58 = .ok (.iconst 1, 1) := by decide +kernel
theorem dX7_at_59 : decode cX7_at 59 = .ok (.if_icmp .ne 10, 3) := by decide +kernel
theorem dX7_at_62 : decode cX7_at 62 = .ok (.iload_n 3, 1) := by decide +kernel
theorem dX7_at_63 : decode cX7_at 63 = .ok (.bipush 20, 2) := by decide +kernel
theorem dX7_at_65 : decode cX7_at 65 = .ok (.irem, 1) := by decide +kernel
theorem dX7_at_66 : decode cX7_at 66 = .ok (.goto 11, 3) := by decide +kernel
theorem dX7_at_69 : decode cX7_at 69 = .ok (.aload_n 0, 1) := by decide +kernel
theorem dX7_at_70 : decode cX7_at 70 = .ok (.getfield 21, 3) := by decide +kernel
theorem dX7_at_73 : decode cX7_at 73 = .ok (.iload_n 3, 1) := by decide +kernel
theorem dX7_at_74 : decode cX7_at 74 = .ok (.invokevirtual 144, 3) := by decide +kernel
theorem dX7_at_77 : decode cX7_at 77 = .ok (.ireturn, 1) := by decide +kernel
theorem dX7_parent_0 : decode cX7_parent 0 = .ok (.aload_n 0, 1) := by decide +kernel
theorem dX7_parent_1 : decode cX7_parent 1 = .ok (.getfield 21, 3) := by decide +kernel
theorem dX7_parent_4 : decode cX7_parent 4 = .ok (.iload_n 1, 1) := by decide +kernel
theorem dX7_parent_5 : decode cX7_parent 5 = .ok (.iload_n 2, 1) := by decide +kernel
theorem dX7_parent_6 : decode cX7_parent 6 = .ok (.invokestatic 141, 3) := by decide +kernel
theorem dX7_parent_9 : decode cX7_parent 9 = .ok (.invokevirtual 144, 3) := by decide +kernel
theorem dX7_parent_12 : decode cX7_parent 12 = .ok (.ireturn, 1) := by decide +kernel
theorem dX7_check_0 : decode cX7_check 0 = .ok (.aload_n 0, 1) := by decide +kernel
theorem dX7_check_1 : decode cX7_check 1 = .ok (.getfield 58, 3) := by decide +kernel
theorem dX7_check_4 : decode cX7_check 4 = .ok (.iconst 0, 1) := by decide +kernel
theorem dX7_check_5 : decode cX7_check 5 = .ok (.putfield 177, 3) := by decide +kernel
theorem dX7_check_8 : decode cX7_check 8 = .ok (.aload_n 0, 1) := by decide +kernel
theorem dX7_check_9 : decode cX7_check 9 = .ok (.invokevirtual 180, 3) := by decide +kernel
theorem dX7_check_12 : decode cX7_check 12 = .ok (.aload_n 0, 1) := by decide +kernel
theorem dX7_check_13 : decode cX7_check 13 = .ok (.invokevirtual 183, 3) := by decide +kernel
theorem dX7_check_16 : decode cX7_check 16 = .ok (.aload_n 0, 1) := by decide +kernel
theorem dX7_check_17 : decode cX7_check 17 = .ok (.invokevirtual 186, 3) := by decide +kernel
theorem dX7_check_20 : decode cX7_check 20 = .ok (.aload_n 0, 1) := by decide +kernel
theorem dX7_check_21 : decode cX7_check 21 = .ok (.invokevirtual 189, 3) := by decide +kernel
theorem dX7_check_24 : decode cX7_check 24 = .ok (.aload_n 0, 1) := by decide +kernel
theorem dX7_check_25 : decode cX7_check 25 = .ok (.invokevirtual 192, 3) := by decide +kernel
theorem dX7_check_28 : decode cX7_check 28 = .ok (.aload_n 0, 1) := by decide +kernel
theorem dX7_check_29 : decode cX7_check 29 = .ok (.invokevirtual 195, 3) := by decide +kernel
theorem dX7_check_32 : decode cX7_check 32 = .ok (.aload_n 0, 1) := by decide +kernel
theorem dX7_check_33 : decode cX7_check 33 = .ok (.invokevirtual 198, 3) := by decide +kernel
theorem dX7_check_36 : decode cX7_check 36 = .ok (.aload_n 0, 1) := by decide +kernel
theorem dX7_check_37 : decode cX7_check 37 = .ok (.invokevirtual 201, 3) := by decide +kernel
theorem dX7_check_40 : decode cX7_check 40 = .ok (.aload_n 0, 1) := by decide +kernel
theorem dX7_check_41 : decode cX7_check 41 = .ok (.invokevirtual 204, 3) := by decide +kernel
theorem dX7_check_44 : decode cX7_check 44 = .ok (.aload_n 0, 1) := by decide +kernel
theorem dX7_check_45 : decode cX7_check 45 = .ok (.invokevirtual 207, 3) := by decide +kernel
theorem dX7_check_48 : decode cX7_check 48 = .ok (.aload_n 0, 1) := by decide +kernel
theorem dX7_check_49 : decode cX7_check 49 = .ok (.getfield 58, 3) := by decide +kernel
theorem dX7_check_52 : decode cX7_check 52 = .ok (.getfield 177, 3) := by decide +kernel
theorem dX7_check_55 : decode cX7_check 55 = .ok (.ireturn, 1) := by decide +kernel
theorem dX7_fault_0 : decode cX7_fault 0 = .ok (.iload_n 2, 1) := by decide +kernel
theorem dX7_fault_1 : decode cX7_fault 1 = .ok (.invokestatic 166, 3) := by decide +kernel
theorem dX7_fault_4 : decode cX7_fault 4 = .ok (.iload_n 1, 1) := by decide +kernel
theorem dX7_fault_5 : decode cX7_fault 5 = .ok (.ifCond .lt 14, 3) := by decide +kernel
theorem dX7_fault_8 : decode cX7_fault 8 = .ok (.iload_n 1, 1) := by decide +kernel
theorem dX7_fault_9 : decode cX7_fault 9 = .ok (.aload_n 0, 1) := by decide +kernel
theorem dX7_fault_10 : decode cX7_fault 10 = .ok (.getfield 58, 3) := by decide +kernel
theorem dX7_fault_13 : decode cX7_fault 13 = .ok (.getfield 177, 3) := by decide +kernel
theorem dX7_fault_16 : decode cX7_fault 16 = .ok (.if_icmp .lt 13, 3) := by decide +kernel
theorem dX7_fault_19 : decode cX7_fault 19 = .ok (.new 169, 3) := by decide +kernel
theorem dX7_fault_22 : decode cX7_fault 22 = .ok (.dup, 1) := by decide +kernel
theorem dX7_fault_23 : decode cX7_fault 23 = .ok (.ldc 210, 2) := by decide +kernel
theorem dX7_fault_25 : decode cX7_fault 25 = .ok (.invokespecial 173, 3) := by decide +kernel
theorem dX7_fault_28 : decode cX7_fault 28 = .ok (.athrow, 1) := by decide +kernel
theorem dX7_fault_29 : decode cX7_fault 29 = .ok (.iload_n 2, 1) := by decide +kernel
theorem dX7_fault_30 : decode cX7_fault 30 = .ok (.ifCond .ne 15, 3) := by decide +kernel
theorem dX7_fault_33 : decode cX7_fault 33 = .ok (.aload_n 0, 1) := by decide +kernel
theorem dX7_fault_34 : decode cX7_fault 34 = .ok (.getfield 58, 3) := by decide +kernel
theorem dX7_fault_37 : decode cX7_fault 37 = .ok (.getfield 212, 3) := by decide +kernel
theorem dX7_fault_40 : decode cX7_fault 40 = .ok (.iload_n 1, 1) := by decide +kernel
theorem dX7_fault_41 : decode cX7_fault 41 = .ok (.iaload, 1) := by decide +kernel
theorem dX7_fault_42 : decode cX7_fault 42 = .ok (.goto 29, 3) := by decide +kernel
theorem dX7_fault_45 : decode cX7_fault 45 = .ok (.iload_n 2, 1) := by decide +kernel
theorem dX7_fault_46 : decode cX7_fault 46 = .ok (.iconst 1, 1) := by decide +kernel
theorem dX7_fault_47 : decode cX7_fault 47 = .ok (.if_icmp .ne 15, 3) := by decide +kernel
theorem dX7_fault_50 : decode cX7_fault 50 = .ok (.aload_n 0, 1) := by decide +kernel
theorem dX7_fault_51 : decode cX7_fault 51 = .ok (.getfield 58, 3) := by decide +kernel
theorem dX7_fault_54 : decode cX7_fault 54 = .ok (.getfield 215, 3) := by decide +kernel
theorem dX7_fault_57 : decode cX7_fault 57 = .ok (.iload_n 1, 1) := by decide +kernel
theorem dX7_fault_58 : decode cX7_fault 58 = .ok (.iaload, 1) := by decide +kernel
theorem dX7_fault_59 : decode cX7_fault 59 = .ok (.goto 12, 3) := by decide +kernel
theorem dX7_fault_62 : decode cX7_fault 62 = .ok (.aload_n 0, 1) := by decide +kernel
theorem dX7_fault_63 : decode cX7_fault 63 = .ok (.getfield 58, 3) := by decide +kernel
theorem dX7_fault_66 : decode cX7_fault 66 = .ok (.getfield 217, 3) := by decide +kernel
theorem dX7_fault_69 : decode cX7_fault 69 = .ok (.iload_n 1, 1) := by decide +kernel
theorem dX7_fault_70 : decode cX7_fault 70 = .ok (.iaload, 1) := by decide +kernel
theorem dX7_fault_71 : decode cX7_fault 71 = .ok (.ireturn, 1) := by decide +kernel
theorem dX7_heading_0 : decode cX7_heading 0 = .ok (.aload_n 0, 1) := by decide +kernel
theorem dX7_heading_1 : decode cX7_heading 1 = .ok (.iload_n 1, 1) := by decide +kernel
theorem dX7_heading_2 : decode cX7_heading 2 = .ok (.invokevirtual 101, 3) := by decide +kernel
theorem dX7_heading_5 : decode cX7_heading 5 = .ok (.iload_n 2, 1) := by decide +kernel
theorem dX7_heading_6 : decode cX7_heading 6 = .ok (.iconst 1, 1) := by decide +kernel
theorem dX7_heading_7 : decode cX7_heading 7 = .ok (.if_icmp .lt 9, 3) := by decide +kernel
theorem dX7_heading_10 : decode cX7_heading 10 = .ok (.iload_n 2, 1) := by decide +kernel
theorem dX7_heading_11 : decode cX7_heading 11 = .ok (.bipush 6, 2) := by decide +kernel
theorem dX7_heading_13 : decode cX7_heading 13 = .ok (.if_icmp .le 13, 3) := by decide +kernel
theorem dX7_heading_16 : decode cX7_heading 16 = .ok (.new 109, 3) := by decide +kernel
theorem dX7_heading_19 : decode cX7_heading 19 = .ok (.dup, 1) := by decide +kernel
theorem dX7_heading_20 : decode cX7_heading 20 = .ok (.ldc 220, 2) := by decide +kernel
theorem dX7_heading_22 : decode cX7_heading 22 = .ok (.invokespecial 113, 3) := by decide +kernel
theorem dX7_heading_25 : decode cX7_heading 25 = .ok (.athrow, 1) := by decide +kernel
theorem dX7_heading_26 : decode cX7_heading 26 = .ok (.aload_n 0, 1) := by decide +kernel
theorem dX7_heading_27 : decode cX7_heading 27 = .ok (.getfield 62, 3) := by decide +kernel
theorem dX7_heading_30 : decode cX7_heading 30 = .ok (.iload_n 1, 1) := by decide +kernel
theorem dX7_heading_31 : decode cX7_heading 31 = .ok (.iaload, 1) := by decide +kernel
theorem dX7_heading_32 : decode cX7_heading 32 = .ok (.istore_n 3, 1) := by decide +kernel
theorem dX7_heading_33 : decode cX7_heading 33 = .ok (.aload_n 0, 1) := by decide +kernel
theorem dX7_heading_34 : decode cX7_heading 34 = .ok (.getfield 62, 3) := by decide +kernel
theorem dX7_heading_37 : decode cX7_heading 37 = .ok (.iload_n 1, 1) := by decide +kernel
theorem dX7_heading_38 : decode cX7_heading 38 = .ok (.iload_n 2, 1) := by decide +kernel
theorem dX7_heading_39 : decode cX7_heading 39 = .ok (.iastore, 1) := by decide +kernel
theorem dX7_heading_40 : decode cX7_heading 40 = .ok (.iload_n 3, 1) := by decide +kernel
theorem dX7_heading_41 : decode cX7_heading 41 = .ok (.ireturn, 1) := by decide +kernel
theorem dX7_words_0 : decode cX7_words 0 = .ok (.aload_n 0, 1) := by decide +kernel
theorem dX7_words_1 : decode cX7_words 1 = .ok (.iload_n 1, 1) := by decide +kernel
theorem dX7_words_2 : decode cX7_words 2 = .ok (.invokevirtual 101, 3) := by decide +kernel
theorem dX7_words_5 : decode cX7_words 5 = .ok (.aload_n 0, 1) := by decide +kernel
theorem dX7_words_6 : decode cX7_words 6 = .ok (.getfield 66, 3) := by decide +kernel
theorem dX7_words_9 : decode cX7_words 9 = .ok (.iload_n 1, 1) := by decide +kernel
theorem dX7_words_10 : decode cX7_words 10 = .ok (.baload, 1) := by decide +kernel
theorem dX7_words_11 : decode cX7_words 11 = .ok (.ifCond .eq 7, 3) := by decide +kernel
theorem dX7_words_14 : decode cX7_words 14 = .ok (.iconst 1, 1) := by decide +kernel
theorem dX7_words_15 : decode cX7_words 15 = .ok (.goto 4, 3) := by decide +kernel
theorem dX7_words_18 : decode cX7_words 18 = .ok (.iconst 0, 1) := by decide +kernel
theorem dX7_words_19 : decode cX7_words 19 = .ok (.istore_n 3, 1) := by decide +kernel
theorem dX7_words_20 : decode cX7_words 20 = .ok (.aload_n 0, 1) := by decide +kernel
theorem dX7_words_21 : decode cX7_words 21 = .ok (.getfield 66, 3) := by decide +kernel
theorem dX7_words_24 : decode cX7_words 24 = .ok (.iload_n 1, 1) := by decide +kernel
theorem dX7_words_25 : decode cX7_words 25 = .ok (.iload_n 2, 1) := by decide +kernel
theorem dX7_words_26 : decode cX7_words 26 = .ok (.bastore, 1) := by decide +kernel
theorem dX7_words_27 : decode cX7_words 27 = .ok (.iload_n 3, 1) := by decide +kernel
theorem dX7_words_28 : decode cX7_words 28 = .ok (.ireturn, 1) := by decide +kernel
theorem dX7_span_0 : decode cX7_span 0 = .ok (.aload_n 0, 1) := by decide +kernel
theorem dX7_span_1 : decode cX7_span 1 = .ok (.iload_n 1, 1) := by decide +kernel
theorem dX7_span_2 : decode cX7_span 2 = .ok (.invokevirtual 101, 3) := by decide +kernel
theorem dX7_span_5 : decode cX7_span 5 = .ok (.iload_n 2, 1) := by decide +kernel
theorem dX7_span_6 : decode cX7_span 6 = .ok (.iconst 1, 1) := by decide +kernel
theorem dX7_span_7 : decode cX7_span 7 = .ok (.if_icmp .lt 20, 3) := by decide +kernel
theorem dX7_span_10 : decode cX7_span 10 = .ok (.iload_n 2, 1) := by decide +kernel
theorem dX7_span_11 : decode cX7_span 11 = .ok (.bipush 8, 2) := by decide +kernel
theorem dX7_span_13 : decode cX7_span 13 = .ok (.if_icmp .gt 14, 3) := by decide +kernel
theorem dX7_span_16 : decode cX7_span 16 = .ok (.iload_n 3, 1) := by decide +kernel
theorem dX7_span_17 : decode cX7_span 17 = .ok (.iconst 1, 1) := by decide +kernel
theorem dX7_span_18 : decode cX7_span 18 = .ok (.if_icmp .lt 9, 3) := by decide +kernel
theorem dX7_span_21 : decode cX7_span 21 = .ok (.iload_n 3, 1) := by decide +kernel
theorem dX7_span_22 : decode cX7_span 22 = .ok (.bipush 8, 2) := by decide +kernel
theorem dX7_span_24 : decode cX7_span 24 = .ok (.if_icmp .le 13, 3) := by decide +kernel
theorem dX7_span_27 : decode cX7_span 27 = .ok (.new 109, 3) := by decide +kernel
theorem dX7_span_30 : decode cX7_span 30 = .ok (.dup, 1) := by decide +kernel
theorem dX7_span_31 : decode cX7_span 31 = .ok (.ldc 222, 2) := by decide +kernel
theorem dX7_span_33 : decode cX7_span 33 = .ok (.invokespecial 113, 3) := by decide +kernel
theorem dX7_span_36 : decode cX7_span 36 = .ok (.athrow, 1) := by decide +kernel
theorem dX7_span_37 : decode cX7_span 37 = .ok (.bipush 10, 2) := by decide +kernel
theorem dX7_span_39 : decode cX7_span 39 = .ok (.aload_n 0, 1) := by decide +kernel
theorem dX7_span_40 : decode cX7_span 40 = .ok (.getfield 70, 3) := by decide +kernel
theorem dX7_span_43 : decode cX7_span 43 = .ok (.iload_n 1, 1) := by decide +kernel
theorem dX7_span_44 : decode cX7_span 44 = .ok (.iaload, 1) := by decide +kernel
theorem dX7_span_45 : decode cX7_span 45 = .ok (.imul, 1) := by decide +kernel
theorem dX7_span_46 : decode cX7_span 46 = .ok (.aload_n 0, 1) := by decide +kernel
theorem dX7_span_47 : decode cX7_span 47 = .ok (.getfield 73, 3) := by decide +kernel
theorem dX7_span_50 : decode cX7_span 50 = .ok (.iload_n 1, 1) := by decide +kernel
theorem dX7_span_51 : decode cX7_span 51 = .ok (.iaload, 1) := by decide +kernel
theorem dX7_span_52 : decode cX7_span 52 = .ok (.iadd, 1) := by decide +kernel
theorem dX7_span_53 : decode cX7_span 53 = .ok (.istore 4, 2) := by decide +kernel
theorem dX7_span_55 : decode cX7_span 55 = .ok (.aload_n 0, 1) := by decide +kernel
theorem dX7_span_56 : decode cX7_span 56 = .ok (.getfield 70, 3) := by decide +kernel
theorem dX7_span_59 : decode cX7_span 59 = .ok (.iload_n 1, 1) := by decide +kernel
theorem dX7_span_60 : decode cX7_span 60 = .ok (.iload_n 2, 1) := by decide +kernel
theorem dX7_span_61 : decode cX7_span 61 = .ok (.iastore, 1) := by decide +kernel
theorem dX7_span_62 : decode cX7_span 62 = .ok (.aload_n 0, 1) := by decide +kernel
theorem dX7_span_63 : decode cX7_span 63 = .ok (.getfield 73, 3) := by decide +kernel
theorem dX7_span_66 : decode cX7_span 66 = .ok (.iload_n 1, 1) := by decide +kernel
theorem dX7_span_67 : decode cX7_span 67 = .ok (.iload_n 3, 1) := by decide +kernel
theorem dX7_span_68 : decode cX7_span 68 = .ok (.iastore, 1) := by decide +kernel
theorem dX7_span_69 : decode cX7_span 69 = .ok (.iload 4, 2) := by decide +kernel
theorem dX7_span_71 : decode cX7_span 71 = .ok (.ireturn, 1) := by decide +kernel
theorem dX7_outline_0 : decode cX7_outline 0 = .ok (.aload_n 0, 1) := by decide +kernel
theorem dX7_outline_1 : decode cX7_outline 1 = .ok (.invokevirtual 224, 3) := by decide +kernel
theorem dX7_outline_4 : decode cX7_outline 4 = .ok (.iload_n 1, 1) := by decide +kernel
theorem dX7_outline_5 : decode cX7_outline 5 = .ok (.iconst (-1), 1) := by decide +kernel
theorem dX7_outline_6 : decode cX7_outline 6 = .ok (.if_icmp .ne 11, 3) := by decide +kernel
theorem dX7_outline_9 : decode cX7_outline 9 = .ok (.aload_n 0, 1) := by decide +kernel
theorem dX7_outline_10 : decode cX7_outline 10 = .ok (.getfield 44, 3) := by decide +kernel
theorem dX7_outline_13 : decode cX7_outline 13 = .ok (.getfield 227, 3) := by decide +kernel
theorem dX7_outline_16 : decode cX7_outline 16 = .ok (.ireturn, 1) := by decide +kernel
theorem dX7_outline_17 : decode cX7_outline 17 = .ok (.iload_n 2, 1) := by decide +kernel
theorem dX7_outline_18 : decode cX7_outline 18 = .ok (.invokestatic 166, 3) := by decide +kernel
theorem dX7_outline_21 : decode cX7_outline 21 = .ok (.iload_n 1, 1) := by decide +kernel
theorem dX7_outline_22 : decode cX7_outline 22 = .ok (.ifCond .lt 14, 3) := by decide +kernel
theorem dX7_outline_25 : decode cX7_outline 25 = .ok (.iload_n 1, 1) := by decide +kernel
theorem dX7_outline_26 : decode cX7_outline 26 = .ok (.aload_n 0, 1) := by decide +kernel
theorem dX7_outline_27 : decode cX7_outline 27 = .ok (.getfield 44, 3) := by decide +kernel
theorem dX7_outline_30 : decode cX7_outline 30 = .ok (.getfield 227, 3) := by decide +kernel
theorem dX7_outline_33 : decode cX7_outline 33 = .ok (.if_icmp .lt 13, 3) := by decide +kernel
theorem dX7_outline_36 : decode cX7_outline 36 = .ok (.new 169, 3) := by decide +kernel
theorem dX7_outline_39 : decode cX7_outline 39 = .ok (.dup, 1) := by decide +kernel
theorem dX7_outline_40 : decode cX7_outline 40 = .ok (.ldc 228, 2) := by decide +kernel
theorem dX7_outline_42 : decode cX7_outline 42 = .ok (.invokespecial 173, 3) := by decide +kernel
theorem dX7_outline_45 : decode cX7_outline 45 = .ok (.athrow, 1) := by decide +kernel
theorem dX7_outline_46 : decode cX7_outline 46 = .ok (.iload_n 2, 1) := by decide +kernel
theorem dX7_outline_47 : decode cX7_outline 47 = .ok (.ifCond .ne 15, 3) := by decide +kernel
theorem dX7_outline_50 : decode cX7_outline 50 = .ok (.aload_n 0, 1) := by decide +kernel
theorem dX7_outline_51 : decode cX7_outline 51 = .ok (.getfield 44, 3) := by decide +kernel
theorem dX7_outline_54 : decode cX7_outline 54 = .ok (.getfield 230, 3) := by decide +kernel
theorem dX7_outline_57 : decode cX7_outline 57 = .ok (.iload_n 1, 1) := by decide +kernel
theorem dX7_outline_58 : decode cX7_outline 58 = .ok (.iaload, 1) := by decide +kernel
theorem dX7_outline_59 : decode cX7_outline 59 = .ok (.goto 29, 3) := by decide +kernel
theorem dX7_outline_62 : decode cX7_outline 62 = .ok (.iload_n 2, 1) := by decide +kernel
theorem dX7_outline_63 : decode cX7_outline 63 = .ok (.iconst 1, 1) := by decide +kernel
theorem dX7_outline_64 : decode cX7_outline 64 = .ok (.if_icmp .ne 15, 3) := by decide +kernel
theorem dX7_outline_67 : decode cX7_outline 67 = .ok (.aload_n 0, 1) := by decide +kernel
theorem dX7_outline_68 : decode cX7_outline 68 = .ok (.getfield 44, 3) := by decide +kernel
theorem dX7_outline_71 : decode cX7_outline 71 = .ok (.getfield 231, 3) := by decide +kernel
theorem dX7_outline_74 : decode cX7_outline 74 = .ok (.iload_n 1, 1) := by decide +kernel
theorem dX7_outline_75 : decode cX7_outline 75 = .ok (.iaload, 1) := by decide +kernel
theorem dX7_outline_76 : decode cX7_outline 76 = .ok (.goto 12, 3) := by decide +kernel
theorem dX7_outline_79 : decode cX7_outline 79 = .ok (.aload_n 0, 1) := by decide +kernel
theorem dX7_outline_80 : decode cX7_outline 80 = .ok (.getfield 44, 3) := by decide +kernel
theorem dX7_outline_83 : decode cX7_outline 83 = .ok (.getfield 234, 3) := by decide +kernel
theorem dX7_outline_86 : decode cX7_outline 86 = .ok (.iload_n 1, 1) := by decide +kernel
theorem dX7_outline_87 : decode cX7_outline 87 = .ok (.iaload, 1) := by decide +kernel
theorem dX7_outline_88 : decode cX7_outline 88 = .ok (.ireturn, 1) := by decide +kernel
theorem dX7_untagged_0 : decode cX7_untagged 0 = .ok (.aload_n 0, 1) := by decide +kernel
theorem dX7_untagged_1 : decode cX7_untagged 1 = .ok (.invokevirtual 235, 3) := by decide +kernel
theorem dX7_untagged_4 : decode cX7_untagged 4 = .ok (.iload_n 1, 1) := by decide +kernel
theorem dX7_untagged_5 : decode cX7_untagged 5 = .ok (.iconst (-1), 1) := by decide +kernel
theorem dX7_untagged_6 : decode cX7_untagged 6 = .ok (.if_icmp .ne 8, 3) := by decide +kernel
theorem dX7_untagged_9 : decode cX7_untagged 9 = .ok (.aload_n 0, 1) := by decide +kernel
theorem dX7_untagged_10 : decode cX7_untagged 10 = .ok (.getfield 89, 3) := by decide +kernel
theorem dX7_untagged_13 : decode cX7_untagged 13 = .ok (.ireturn, 1) := by decide +kernel
theorem dX7_untagged_14 : decode cX7_untagged 14 = .ok (.iload_n 1, 1) := by decide +kernel
theorem dX7_untagged_15 : decode cX7_untagged 15 = .ok (.ifCond .lt 11, 3) := by decide +kernel
theorem dX7_untagged_18 : decode cX7_untagged 18 = .ok (.iload_n 1, 1) := by decide +kernel
theorem dX7_untagged_19 : decode cX7_untagged 19 = .ok (.aload_n 0, 1) := by decide +kernel
theorem dX7_untagged_20 : decode cX7_untagged 20 = .ok (.getfield 89, 3) := by decide +kernel
theorem dX7_untagged_23 : decode cX7_untagged 23 = .ok (.if_icmp .lt 13, 3) := by decide +kernel
theorem dX7_untagged_26 : decode cX7_untagged 26 = .ok (.new 169, 3) := by decide +kernel
theorem dX7_untagged_29 : decode cX7_untagged 29 = .ok (.dup, 1) := by decide +kernel
theorem dX7_untagged_30 : decode cX7_untagged 30 = .ok (.ldc 238, 2) := by decide +kernel
theorem dX7_untagged_32 : decode cX7_untagged 32 = .ok (.invokespecial 173, 3) := by decide +kernel
theorem dX7_untagged_35 : decode cX7_untagged 35 = .ok (.athrow, 1) := by decide +kernel
theorem dX7_untagged_36 : decode cX7_untagged 36 = .ok (.aload_n 0, 1) := by decide +kernel
theorem dX7_untagged_37 : decode cX7_untagged 37 = .ok (.getfield 86, 3) := by decide +kernel
theorem dX7_untagged_40 : decode cX7_untagged 40 = .ok (.iload_n 1, 1) := by decide +kernel
theorem dX7_untagged_41 : decode cX7_untagged 41 = .ok (.iaload, 1) := by decide +kernel
theorem dX7_untagged_42 : decode cX7_untagged 42 = .ok (.ireturn, 1) := by decide +kernel
theorem dX7_needElement_0 : decode cX7_needElement 0 = .ok (.iload_n 1, 1) := by decide +kernel
theorem dX7_needElement_1 : decode cX7_needElement 1 = .ok (.ifCond .lt 14, 3) := by decide +kernel
theorem dX7_needElement_4 : decode cX7_needElement 4 = .ok (.iload_n 1, 1) := by decide +kernel
theorem dX7_needElement_5 : decode cX7_needElement 5 = .ok (.aload_n 0, 1) := by decide +kernel
theorem dX7_needElement_6 : decode cX7_needElement 6 = .ok (.getfield 21, 3) := by decide +kernel
theorem dX7_needElement_9 : decode cX7_needElement 9 = .ok (.getfield 116, 3) := by decide +kernel
theorem dX7_needElement_12 : decode cX7_needElement 12 = .ok (.if_icmp .lt 13, 3) := by decide +kernel
theorem dX7_needElement_15 : decode cX7_needElement 15 = .ok (.new 240, 3) := by decide +kernel
theorem dX7_needElement_18 : decode cX7_needElement 18 = .ok (.dup, 1) := by decide +kernel
theorem dX7_needElement_19 : decode cX7_needElement 19 = .ok (.ldc 242, 2) := by decide +kernel
theorem dX7_needElement_21 : decode cX7_needElement 21 = .ok (.invokespecial 244, 3) := by decide +kernel
theorem dX7_needElement_24 : decode cX7_needElement 24 = .ok (.athrow, 1) := by decide +kernel
theorem dX7_needElement_25 : decode cX7_needElement 25 = .ok (.return_, 1) := by decide +kernel
theorem dX7_needCode_0 : decode cX7_needCode 0 = .ok (.iload_n 0, 1) := by decide +kernel
theorem dX7_needCode_1 : decode cX7_needCode 1 = .ok (.ifCond .lt 19, 3) := by decide +kernel
theorem dX7_needCode_4 : decode cX7_needCode 4 = .ok (.iload_n 0, 1) := by decide +kernel
theorem dX7_needCode_5 : decode cX7_needCode 5 = .ok (.bipush 10, 2) := by decide +kernel
theorem dX7_needCode_7 : decode cX7_needCode 7 = .ok (.if_icmp .ge 13, 3) := by decide +kernel
theorem dX7_needCode_10 : decode cX7_needCode 10 = .ok (.iload_n 1, 1) := by decide +kernel
theorem dX7_needCode_11 : decode cX7_needCode 11 = .ok (.ifCond .lt 9, 3) := by decide +kernel
theorem dX7_needCode_14 : decode cX7_needCode 14 = .ok (.iload_n 1, 1) := by decide +kernel
theorem dX7_needCode_15 : decode cX7_needCode 15 = .ok (.bipush 20, 2) := by decide +kernel
theorem dX7_needCode_17 : decode cX7_needCode 17 = .ok (.if_icmp .lt 13, 3) := by decide +kernel
theorem dX7_needCode_20 : decode cX7_needCode 20 = .ok (.new 109, 3) := by decide +kernel
theorem dX7_needCode_23 : decode cX7_needCode 23 = .ok (.dup, 1) := by decide +kernel
theorem dX7_needCode_24 : decode cX7_needCode 24 = .ok (.ldc 245, 2) := by decide +kernel
theorem dX7_needCode_26 : decode cX7_needCode 26 = .ok (.invokespecial 113, 3) := by decide +kernel
theorem dX7_needCode_29 : decode cX7_needCode 29 = .ok (.athrow, 1) := by decide +kernel
theorem dX7_needCode_30 : decode cX7_needCode 30 = .ok (.iload_n 0, 1) := by decide +kernel
theorem dX7_needCode_31 : decode cX7_needCode 31 = .ok (.bipush 20, 2) := by decide +kernel
theorem dX7_needCode_33 : decode cX7_needCode 33 = .ok (.imul, 1) := by decide +kernel
theorem dX7_needCode_34 : decode cX7_needCode 34 = .ok (.iload_n 1, 1) := by decide +kernel
theorem dX7_needCode_35 : decode cX7_needCode 35 = .ok (.iadd, 1) := by decide +kernel
theorem dX7_needCode_36 : decode cX7_needCode 36 = .ok (.ireturn, 1) := by decide +kernel
theorem dX7_needWhat_0 : decode cX7_needWhat 0 = .ok (.iload_n 0, 1) := by decide +kernel
theorem dX7_needWhat_1 : decode cX7_needWhat 1 = .ok (.ifCond .lt 8, 3) := by decide +kernel
theorem dX7_needWhat_4 : decode cX7_needWhat 4 = .ok (.iload_n 0, 1) := by decide +kernel
theorem dX7_needWhat_5 : decode cX7_needWhat 5 = .ok (.iconst 2, 1) := by decide +kernel
theorem dX7_needWhat_6 : decode cX7_needWhat 6 = .ok (.if_icmp .le 13, 3) := by decide +kernel
theorem dX7_needWhat_9 : decode cX7_needWhat 9 = .ok (.new 169, 3) := by decide +kernel
theorem dX7_needWhat_12 : decode cX7_needWhat 12 = .ok (.dup, 1) := by decide +kernel
theorem dX7_needWhat_13 : decode cX7_needWhat 13 = .ok (.ldc 247, 2) := by decide +kernel
theorem dX7_needWhat_15 : decode cX7_needWhat 15 = .ok (.invokespecial 173, 3) := by decide +kernel
theorem dX7_needWhat_18 : decode cX7_needWhat 18 = .ok (.athrow, 1) := by decide +kernel
theorem dX7_needWhat_19 : decode cX7_needWhat 19 = .ok (.return_, 1) := by decide +kernel
theorem dX7_keepRepeat_0 : decode cX7_keepRepeat 0 = .ok (.aload_n 0, 1) := by decide +kernel
theorem dX7_keepRepeat_1 : decode cX7_keepRepeat 1 = .ok (.getfield 82, 3) := by decide +kernel
theorem dX7_keepRepeat_4 : decode cX7_keepRepeat 4 = .ok (.bipush 40, 2) := by decide +kernel
theorem dX7_keepRepeat_6 : decode cX7_keepRepeat 6 = .ok (.if_icmp .ge 33, 3) := by decide +kernel
theorem dX7_keepRepeat_9 : decode cX7_keepRepeat 9 = .ok (.aload_n 0, 1) := by decide +kernel
theorem dX7_keepRepeat_10 : decode cX7_keepRepeat 10 = .ok (.getfield 76, 3) := by decide +kernel
theorem dX7_keepRepeat_13 : decode cX7_keepRepeat 13 = .ok (.aload_n 0, 1) := by decide +kernel
theorem dX7_keepRepeat_14 : decode cX7_keepRepeat 14 = .ok (.getfield 82, 3) := by decide +kernel
theorem dX7_keepRepeat_17 : decode cX7_keepRepeat 17 = .ok (.iload_n 1, 1) := by decide +kernel
theorem dX7_keepRepeat_18 : decode cX7_keepRepeat 18 = .ok (.iastore, 1) := by decide +kernel
theorem dX7_keepRepeat_19 : decode cX7_keepRepeat 19 = .ok (.aload_n 0, 1) := by decide +kernel
theorem dX7_keepRepeat_20 : decode cX7_keepRepeat 20 = .ok (.getfield 79, 3) := by decide +kernel
theorem dX7_keepRepeat_23 : decode cX7_keepRepeat 23 = .ok (.aload_n 0, 1) := by decide +kernel
theorem dX7_keepRepeat_24 : decode cX7_keepRepeat 24 = .ok (.getfield 82, 3) := by decide +kernel
theorem dX7_keepRepeat_27 : decode cX7_keepRepeat 27 = .ok (.iload_n 2, 1) := by decide +kernel
theorem dX7_keepRepeat_28 : decode cX7_keepRepeat 28 = .ok (.iastore, 1) := by decide +kernel
theorem dX7_keepRepeat_29 : decode cX7_keepRepeat 29 = .ok (.aload_n 0, 1) := by decide +kernel
theorem dX7_keepRepeat_30 : decode cX7_keepRepeat 30 = .ok (.dup, 1) := by decide +kernel
theorem dX7_keepRepeat_31 : decode cX7_keepRepeat 31 = .ok (.getfield 82, 3) := by decide +kernel
theorem dX7_keepRepeat_34 : decode cX7_keepRepeat 34 = .ok (.iconst 1, 1) := by decide +kernel
theorem dX7_keepRepeat_35 : decode cX7_keepRepeat 35 = .ok (.iadd, 1) := by decide +kernel
theorem dX7_keepRepeat_36 : decode cX7_keepRepeat 36 = .ok (.putfield 82, 3) := by decide +kernel
theorem dX7_keepRepeat_39 : decode cX7_keepRepeat 39 = .ok (.return_, 1) := by decide +kernel
theorem dX7_gatherHeadings_0 : decode cX7_gatherHeadings 0 = .ok (.aload_n 0, 1) := by decide +kernel
theorem dX7_gatherHeadings_1 : decode cX7_gatherHeadings 1 = .ok (.getfield 30, 3) := by decide +kernel
theorem dX7_gatherHeadings_4 : decode cX7_gatherHeadings 4 = .ok (.invokevirtual 162, 3) := by decide +kernel
theorem dX7_gatherHeadings_7 : decode cX7_gatherHeadings 7 = .ok (.aload_n 0, 1) := by decide +kernel
theorem dX7_gatherHeadings_8 : decode cX7_gatherHeadings 8 = .ok (.getfield 44, 3) := by decide +kernel
theorem dX7_gatherHeadings_11 : decode cX7_gatherHeadings 11 = .ok (.iconst 0, 1) := by decide +kernel
theorem dX7_gatherHeadings_12 : decode cX7_gatherHeadings 12 = .ok (.putfield 227, 3) := by decide +kernel
theorem dX7_gatherHeadings_15 : decode cX7_gatherHeadings 15 = .ok (.iconst 0, 1) := by decide +kernel
theorem dX7_gatherHeadings_16 : decode cX7_gatherHeadings 16 = .ok (.istore_n 1, 1) := by decide +kernel
theorem dX7_gatherHeadings_17 : decode cX7_gatherHeadings 17 = .ok (.iload_n 1, 1) := by decide +kernel
theorem dX7_gatherHeadings_18 : decode cX7_gatherHeadings 18 = .ok (.aload_n 0, 1) := by decide +kernel
theorem dX7_gatherHeadings_19 : decode cX7_gatherHeadings 19 = .ok (.getfield 30, 3) := by decide +kernel
theorem dX7_gatherHeadings_22 : decode cX7_gatherHeadings 22 = .ok (.getfield 249, 3) := by decide +kernel
theorem dX7_gatherHeadings_25 : decode cX7_gatherHeadings 25 = .ok (.if_icmp .ge 54, 3) := by decide +kernel
theorem dX7_gatherHeadings_28 : decode cX7_gatherHeadings 28 = .ok (.aload_n 0, 1) := by decide +kernel
theorem dX7_gatherHeadings_29 : decode cX7_gatherHeadings 29 = .ok (.getfield 30, 3) := by decide +kernel
theorem dX7_gatherHeadings_32 : decode cX7_gatherHeadings 32 = .ok (.getfield 250, 3) := by decide +kernel
theorem dX7_gatherHeadings_35 : decode cX7_gatherHeadings 35 = .ok (.iload_n 1, 1) := by decide +kernel
theorem dX7_gatherHeadings_36 : decode cX7_gatherHeadings 36 = .ok (.iaload, 1) := by decide +kernel
theorem dX7_gatherHeadings_37 : decode cX7_gatherHeadings 37 = .ok (.istore_n 2, 1) := by decide +kernel
theorem dX7_gatherHeadings_38 : decode cX7_gatherHeadings 38 = .ok (.aload_n 0, 1) := by decide +kernel
theorem dX7_gatherHeadings_39 : decode cX7_gatherHeadings 39 = .ok (.getfield 62, 3) := by decide +kernel
theorem dX7_gatherHeadings_42 : decode cX7_gatherHeadings 42 = .ok (.iload_n 2, 1) := by decide +kernel
theorem dX7_gatherHeadings_43 : decode cX7_gatherHeadings 43 = .ok (.iaload, 1) := by decide +kernel
theorem dX7_gatherHeadings_44 : decode cX7_gatherHeadings 44 = .ok (.ifCond .eq 29, 3) := by decide +kernel
theorem dX7_gatherHeadings_47 : decode cX7_gatherHeadings 47 = .ok (.aload_n 0, 1) := by decide +kernel
theorem dX7_gatherHeadings_48 : decode cX7_gatherHeadings 48 = .ok (.getfield 21, 3) := by decide +kernel
theorem dX7_gatherHeadings_51 : decode cX7_gatherHeadings 51 = .ok (.iload_n 2, 1) := by decide +kernel
theorem dX7_gatherHeadings_52 : decode cX7_gatherHeadings 52 = .ok (.invokevirtual 253, 3) := by decide +kernel
theorem dX7_gatherHeadings_55 : decode cX7_gatherHeadings 55 = .ok (.iconst 2, 1) := by decide +kernel
theorem dX7_gatherHeadings_56 : decode cX7_gatherHeadings 56 = .ok (.if_icmp .ne 17, 3) := by decide +kernel
theorem dX7_gatherHeadings_59 : decode cX7_gatherHeadings 59 = .ok (.aload_n 0, 1) := by decide +kernel
theorem dX7_gatherHeadings_60 : decode cX7_gatherHeadings 60 = .ok (.getfield 44, 3) := by decide +kernel
theorem dX7_gatherHeadings_63 : decode cX7_gatherHeadings 63 = .ok (.iload_n 2, 1) := by decide +kernel
theorem dX7_gatherHeadings_64 : decode cX7_gatherHeadings 64 = .ok (.aload_n 0, 1) := by decide +kernel
theorem dX7_gatherHeadings_65 : decode cX7_gatherHeadings 65 = .ok (.getfield 62, 3) := by decide +kernel
theorem dX7_gatherHeadings_68 : decode cX7_gatherHeadings 68 = .ok (.iload_n 2, 1) := by decide +kernel
theorem dX7_gatherHeadings_69 : decode cX7_gatherHeadings 69 = .ok (.iaload, 1) := by decide +kernel
theorem dX7_gatherHeadings_70 : decode cX7_gatherHeadings 70 = .ok (.invokevirtual 256, 3) := by decide +kernel
theorem dX7_gatherHeadings_73 : decode cX7_gatherHeadings 73 = .ok (.iinc 1 1, 3) := by decide +kernel
theorem dX7_gatherHeadings_76 : decode cX7_gatherHeadings 76 = .ok (.goto (-59), 3) := by decide +kernel
theorem dX7_gatherHeadings_79 : decode cX7_gatherHeadings 79 = .ok (.return_, 1) := by decide +kernel
theorem dX7_gatherLoose_0 : decode cX7_gatherLoose 0 = .ok (.aload_n 0, 1) := by decide +kernel
theorem dX7_gatherLoose_1 : decode cX7_gatherLoose 1 = .ok (.iconst 0, 1) := by decide +kernel
theorem dX7_gatherLoose_2 : decode cX7_gatherLoose 2 = .ok (.putfield 89, 3) := by decide +kernel
theorem dX7_gatherLoose_5 : decode cX7_gatherLoose 5 = .ok (.iconst 0, 1) := by decide +kernel
theorem dX7_gatherLoose_6 : decode cX7_gatherLoose 6 = .ok (.istore_n 1, 1) := by decide +kernel
theorem dX7_gatherLoose_7 : decode cX7_gatherLoose 7 = .ok (.iload_n 1, 1) := by decide +kernel
theorem dX7_gatherLoose_8 : decode cX7_gatherLoose 8 = .ok (.bipush 10, 2) := by decide +kernel
theorem dX7_gatherLoose_10 : decode cX7_gatherLoose 10 = .ok (.if_icmp .ge 81, 3) := by decide +kernel
theorem dX7_gatherLoose_13 : decode cX7_gatherLoose 13 = .ok (.iconst 0, 1) := by decide +kernel
theorem dX7_gatherLoose_14 : decode cX7_gatherLoose 14 = .ok (.istore_n 2, 1) := by decide +kernel
theorem dX7_gatherLoose_15 : decode cX7_gatherLoose 15 = .ok (.iload_n 2, 1) := by decide +kernel
theorem dX7_gatherLoose_16 : decode cX7_gatherLoose 16 = .ok (.aload_n 0, 1) := by decide +kernel
theorem dX7_gatherLoose_17 : decode cX7_gatherLoose 17 = .ok (.getfield 37, 3) := by decide +kernel
theorem dX7_gatherLoose_20 : decode cX7_gatherLoose 20 = .ok (.iload_n 1, 1) := by decide +kernel
theorem dX7_gatherLoose_21 : decode cX7_gatherLoose 21 = .ok (.invokevirtual 259, 3) := by decide +kernel
theorem dX7_gatherLoose_24 : decode cX7_gatherLoose 24 = .ok (.if_icmp .ge 61, 3) := by decide +kernel
theorem dX7_gatherLoose_27 : decode cX7_gatherLoose 27 = .ok (.aload_n 0, 1) := by decide +kernel
theorem dX7_gatherLoose_28 : decode cX7_gatherLoose 28 = .ok (.getfield 37, 3) := by decide +kernel
theorem dX7_gatherLoose_31 : decode cX7_gatherLoose 31 = .ok (.iload_n 1, 1) := by decide +kernel
theorem dX7_gatherLoose_32 : decode cX7_gatherLoose 32 = .ok (.iload_n 2, 1) := by decide +kernel
theorem dX7_gatherLoose_33 : decode cX7_gatherLoose 33 = .ok (.invokevirtual 262, 3) := by decide +kernel
theorem dX7_gatherLoose_36 : decode cX7_gatherLoose 36 = .ok (.istore_n 3, 1) := by decide +kernel
theorem dX7_gatherLoose_37 : decode cX7_gatherLoose 37 = .ok (.aload_n 0, 1) := by decide +kernel
theorem dX7_gatherLoose_38 : decode cX7_gatherLoose 38 = .ok (.getfield 89, 3) := by decide +kernel
theorem dX7_gatherLoose_41 : decode cX7_gatherLoose 41 = .ok (.sipush 200, 3) := by decide +kernel
theorem dX7_gatherLoose_44 : decode cX7_gatherLoose 44 = .ok (.if_icmp .ge 35, 3) := by decide +kernel
theorem dX7_gatherLoose_47 : decode cX7_gatherLoose 47 = .ok (.aload_n 0, 1) := by decide +kernel
theorem dX7_gatherLoose_48 : decode cX7_gatherLoose 48 = .ok (.getfield 21, 3) := by decide +kernel
theorem dX7_gatherLoose_51 : decode cX7_gatherLoose 51 = .ok (.iload_n 3, 1) := by decide +kernel
theorem dX7_gatherLoose_52 : decode cX7_gatherLoose 52 = .ok (.invokevirtual 144, 3) := by decide +kernel
theorem dX7_gatherLoose_55 : decode cX7_gatherLoose 55 = .ok (.iconst (-1), 1) := by decide +kernel
theorem dX7_gatherLoose_56 : decode cX7_gatherLoose 56 = .ok (.if_icmp .ne 23, 3) := by decide +kernel
theorem dX7_gatherLoose_59 : decode cX7_gatherLoose 59 = .ok (.aload_n 0, 1) := by decide +kernel
theorem dX7_gatherLoose_60 : decode cX7_gatherLoose 60 = .ok (.getfield 86, 3) := by decide +kernel
theorem dX7_gatherLoose_63 : decode cX7_gatherLoose 63 = .ok (.aload_n 0, 1) := by decide +kernel
theorem dX7_gatherLoose_64 : decode cX7_gatherLoose 64 = .ok (.getfield 89, 3) := by decide +kernel
theorem dX7_gatherLoose_67 : decode cX7_gatherLoose 67 = .ok (.iload_n 3, 1) := by decide +kernel
theorem dX7_gatherLoose_68 : decode cX7_gatherLoose 68 = .ok (.iastore, 1) := by decide +kernel
theorem dX7_gatherLoose_69 : decode cX7_gatherLoose 69 = .ok (.aload_n 0, 1) := by decide +kernel
theorem dX7_gatherLoose_70 : decode cX7_gatherLoose 70 = .ok (.dup, 1) := by decide +kernel
theorem dX7_gatherLoose_71 : decode cX7_gatherLoose 71 = .ok (.getfield 89, 3) := by decide +kernel
theorem dX7_gatherLoose_74 : decode cX7_gatherLoose 74 = .ok (.iconst 1, 1) := by decide +kernel
theorem dX7_gatherLoose_75 : decode cX7_gatherLoose 75 = .ok (.iadd, 1) := by decide +kernel
theorem dX7_gatherLoose_76 : decode cX7_gatherLoose 76 = .ok (.putfield 89, 3) := by decide +kernel
theorem dX7_gatherLoose_79 : decode cX7_gatherLoose 79 = .ok (.iinc 2 1, 3) := by decide +kernel
theorem dX7_gatherLoose_82 : decode cX7_gatherLoose 82 = .ok (.goto (-67), 3) := by decide +kernel
theorem dX7_gatherLoose_85 : decode cX7_gatherLoose 85 = .ok (.iinc 1 1, 3) := by decide +kernel
theorem dX7_gatherLoose_88 : decode cX7_gatherLoose 88 = .ok (.goto (-81), 3) := by decide +kernel
theorem dX7_gatherLoose_91 : decode cX7_gatherLoose 91 = .ok (.return_, 1) := by decide +kernel
theorem dX7_findElementsWithoutStandard_0 : decode cX7_findElementsWithoutStandard 0 = .ok (.iconst 0, 1) := by decide +kernel
theorem dX7_findElementsWithoutStandard_1 : decode cX7_findElementsWithoutStandard 1 = .ok (.istore_n 1, 1) := by decide +kernel
theorem dX7_findElementsWithoutStandard_2 : decode cX7_findElementsWithoutStandard 2 = .ok (.iload_n 1, 1) := by decide +kernel
theorem dX7_findElementsWithoutStandard_3 : decode cX7_findElementsWithoutStandard 3 = .ok (.aload_n 0, 1) := by decide +kernel
theorem dX7_findElementsWithoutStandard_4 : decode cX7_findElementsWithoutStandard 4 = .ok (.getfield 21, 3) := by decide +kernel
theorem dX7_findElementsWithoutStandard_7 : decode cX7_findElementsWithoutStandard 7 = .ok (.getfield 116, 3) := by decide +kernel
theorem dX7_findElementsWithoutStandard_10 : decode cX7_findElementsWithoutStandard 10 = .ok (.if_icmp .ge 31, 3) := by decide +kernel
theorem dX7_findElementsWithoutStandard_13 : decode cX7_findElementsWithoutStandard 13 = .ok (.aload_n 0, 1) := by decide +kernel
theorem dX7_findElementsWithoutStandard_14 : decode cX7_findElementsWithoutStandard 14 = .ok (.getfield 21, 3) := by decide +kernel
theorem dX7_findElementsWithoutStandard_17 : decode cX7_findElementsWithoutStandard 17 = .ok (.iload_n 1, 1) := by decide +kernel
theorem dX7_findElementsWithoutStandard_18 : decode cX7_findElementsWithoutStandard 18 = .ok (.invokevirtual 253, 3) := by decide +kernel
theorem dX7_findElementsWithoutStandard_21 : decode cX7_findElementsWithoutStandard 21 = .ok (.iconst (-1), 1) := by decide +kernel
theorem dX7_findElementsWithoutStandard_22 : decode cX7_findElementsWithoutStandard 22 = .ok (.if_icmp .ne 13, 3) := by decide +kernel
theorem dX7_findElementsWithoutStandard_25 : decode cX7_findElementsWithoutStandard 25 = .ok (.aload_n 0, 1) := by decide +kernel
theorem dX7_findElementsWithoutStandard_26 : decode cX7_findElementsWithoutStandard 26 = .ok (.getfield 58, 3) := by decide +kernel
theorem dX7_findElementsWithoutStandard_29 : decode cX7_findElementsWithoutStandard 29 = .ok (.iconst 1, 1) := by decide +kernel
theorem dX7_findElementsWithoutStandard_30 : decode cX7_findElementsWithoutStandard 30 = .ok (.iload_n 1, 1) := by decide +kernel
theorem dX7_findElementsWithoutStandard_31 : decode cX7_findElementsWithoutStandard 31 = .ok (.iconst 0, 1) := by decide +kernel
theorem dX7_findElementsWithoutStandard_32 : decode cX7_findElementsWithoutStandard 32 = .ok (.invokevirtual 265, 3) := by decide +kernel
theorem dX7_findElementsWithoutStandard_35 : decode cX7_findElementsWithoutStandard 35 = .ok (.iinc 1 1, 3) := by decide +kernel
theorem dX7_findElementsWithoutStandard_38 : decode cX7_findElementsWithoutStandard 38 = .ok (.goto (-36), 3) := by decide +kernel
theorem dX7_findElementsWithoutStandard_41 : decode cX7_findElementsWithoutStandard 41 = .ok (.return_, 1) := by decide +kernel
theorem dX7_findHeadingsWithoutLevel_0 : decode cX7_findHeadingsWithoutLevel 0 = .ok (.iconst 0, 1) := by decide +kernel
theorem dX7_findHeadingsWithoutLevel_1 : decode cX7_findHeadingsWithoutLevel 1 = .ok (.istore_n 1, 1) := by decide +kernel
theorem dX7_findHeadingsWithoutLevel_2 : decode cX7_findHeadingsWithoutLevel 2 = .ok (.iload_n 1, 1) := by decide +kernel
theorem dX7_findHeadingsWithoutLevel_3 : decode cX7_findHeadingsWithoutLevel 3 = .ok (.aload_n 0, 1) := by decide +kernel
theorem dX7_findHeadingsWithoutLevel_4 : decode cX7_findHeadingsWithoutLevel 4 = .ok (.getfield 21, 3) := by decide +kernel
theorem dX7_findHeadingsWithoutLevel_7 : decode cX7_findHeadingsWithoutLevel 7 = .ok (.getfield 116, 3) := by decide +kernel
theorem dX7_findHeadingsWithoutLevel_10 : decode cX7_findHeadingsWithoutLevel 10 = .ok (.if_icmp .ge 40, 3) := by decide +kernel
theorem dX7_findHeadingsWithoutLevel_13 : decode cX7_findHeadingsWithoutLevel 13 = .ok (.aload_n 0, 1) := by decide +kernel
theorem dX7_findHeadingsWithoutLevel_14 : decode cX7_findHeadingsWithoutLevel 14 = .ok (.getfield 21, 3) := by decide +kernel
theorem dX7_findHeadingsWithoutLevel_17 : decode cX7_findHeadingsWithoutLevel 17 = .ok (.iload_n 1, 1) := by decide +kernel
theorem dX7_findHeadingsWithoutLevel_18 : decode cX7_findHeadingsWithoutLevel 18 = .ok (.invokevirtual 253, 3) := by decide +kernel
theorem dX7_findHeadingsWithoutLevel_21 : decode cX7_findHeadingsWithoutLevel 21 = .ok (.iconst 2, 1) := by decide +kernel
theorem dX7_findHeadingsWithoutLevel_22 : decode cX7_findHeadingsWithoutLevel 22 = .ok (.if_icmp .ne 22, 3) := by decide +kernel
theorem dX7_findHeadingsWithoutLevel_25 : decode cX7_findHeadingsWithoutLevel 25 = .ok (.aload_n 0, 1) := by decide +kernel
theorem dX7_findHeadingsWithoutLevel_26 : decode cX7_findHeadingsWithoutLevel 26 = .ok (.getfield 62, 3) := by decide +kernel
theorem dX7_findHeadingsWithoutLevel_29 : decode cX7_findHeadingsWithoutLevel 29 = .ok (.iload_n 1, 1) := by decide +kernel
theorem dX7_findHeadingsWithoutLevel_30 : decode cX7_findHeadingsWithoutLevel 30 = .ok (.iaload, 1) := by decide +kernel
theorem dX7_findHeadingsWithoutLevel_31 : decode cX7_findHeadingsWithoutLevel 31 = .ok (.ifCond .ne 13, 3) := by decide +kernel
theorem dX7_findHeadingsWithoutLevel_34 : decode cX7_findHeadingsWithoutLevel 34 = .ok (.aload_n 0, 1) := by decide +kernel
theorem dX7_findHeadingsWithoutLevel_35 : decode cX7_findHeadingsWithoutLevel 35 = .ok (.getfield 58, 3) := by decide +kernel
theorem dX7_findHeadingsWithoutLevel_38 : decode cX7_findHeadingsWithoutLevel 38 = .ok (.iconst 2, 1) := by decide +kernel
theorem dX7_findHeadingsWithoutLevel_39 : decode cX7_findHeadingsWithoutLevel 39 = .ok (.iload_n 1, 1) := by decide +kernel
theorem dX7_findHeadingsWithoutLevel_40 : decode cX7_findHeadingsWithoutLevel 40 = .ok (.iconst 0, 1) := by decide +kernel
theorem dX7_findHeadingsWithoutLevel_41 : decode cX7_findHeadingsWithoutLevel 41 = .ok (.invokevirtual 265, 3) := by decide +kernel
theorem dX7_findHeadingsWithoutLevel_44 : decode cX7_findHeadingsWithoutLevel 44 = .ok (.iinc 1 1, 3) := by decide +kernel
theorem dX7_findHeadingsWithoutLevel_47 : decode cX7_findHeadingsWithoutLevel 47 = .ok (.goto (-45), 3) := by decide +kernel
theorem dX7_findHeadingsWithoutLevel_50 : decode cX7_findHeadingsWithoutLevel 50 = .ok (.return_, 1) := by decide +kernel
theorem dX7_findSkippedLevels_0 : decode cX7_findSkippedLevels 0 = .ok (.aload_n 0, 1) := by decide +kernel
theorem dX7_findSkippedLevels_1 : decode cX7_findSkippedLevels 1 = .ok (.invokevirtual 224, 3) := by decide +kernel
theorem dX7_findSkippedLevels_4 : decode cX7_findSkippedLevels 4 = .ok (.iconst 0, 1) := by decide +kernel
theorem dX7_findSkippedLevels_5 : decode cX7_findSkippedLevels 5 = .ok (.istore_n 1, 1) := by decide +kernel
theorem dX7_findSkippedLevels_6 : decode cX7_findSkippedLevels 6 = .ok (.iconst 0, 1) := by decide +kernel
theorem dX7_findSkippedLevels_7 : decode cX7_findSkippedLevels 7 = .ok (.istore_n 2, 1) := by decide +kernel
theorem dX7_findSkippedLevels_8 : decode cX7_findSkippedLevels 8 = .ok (.iload_n 2, 1) := by decide +kernel
theorem dX7_findSkippedLevels_9 : decode cX7_findSkippedLevels 9 = .ok (.aload_n 0, 1) := by decide +kernel
theorem dX7_findSkippedLevels_10 : decode cX7_findSkippedLevels 10 = .ok (.getfield 44, 3) := by decide +kernel
theorem dX7_findSkippedLevels_13 : decode cX7_findSkippedLevels 13 = .ok (.getfield 227, 3) := by decide +kernel
theorem dX7_findSkippedLevels_16 : decode cX7_findSkippedLevels 16 = .ok (.if_icmp .ge 46, 3) := by decide +kernel
theorem dX7_findSkippedLevels_19 : decode cX7_findSkippedLevels 19 = .ok (.aload_n 0, 1) := by decide +kernel
theorem dX7_findSkippedLevels_20 : decode cX7_findSkippedLevels 20 = .ok (.getfield 44, 3) := by decide +kernel
theorem dX7_findSkippedLevels_23 : decode cX7_findSkippedLevels 23 = .ok (.getfield 234, 3) := by decide +kernel
theorem dX7_findSkippedLevels_26 : decode cX7_findSkippedLevels 26 = .ok (.iload_n 2, 1) := by decide +kernel
theorem dX7_findSkippedLevels_27 : decode cX7_findSkippedLevels 27 = .ok (.iaload, 1) := by decide +kernel
theorem dX7_findSkippedLevels_28 : decode cX7_findSkippedLevels 28 = .ok (.istore_n 3, 1) := by decide +kernel
theorem dX7_findSkippedLevels_29 : decode cX7_findSkippedLevels 29 = .ok (.iload_n 3, 1) := by decide +kernel
theorem dX7_findSkippedLevels_30 : decode cX7_findSkippedLevels 30 = .ok (.iload_n 1, 1) := by decide +kernel
theorem dX7_findSkippedLevels_31 : decode cX7_findSkippedLevels 31 = .ok (.iconst 1, 1) := by decide +kernel
theorem dX7_findSkippedLevels_32 : decode cX7_findSkippedLevels 32 = .ok (.iadd, 1) := by decide +kernel
theorem dX7_findSkippedLevels_33 : decode cX7_findSkippedLevels 33 = .ok (.if_icmp .le 21, 3) := by decide +kernel
theorem dX7_findSkippedLevels_36 : decode cX7_findSkippedLevels 36 = .ok (.aload_n 0, 1) := by decide +kernel
theorem dX7_findSkippedLevels_37 : decode cX7_findSkippedLevels 37 = .ok (.getfield 58, 3) := by decide +kernel
theorem dX7_findSkippedLevels_40 : decode cX7_findSkippedLevels 40 = .ok (.iconst 3, 1) := by decide +kernel
theorem dX7_findSkippedLevels_41 : decode cX7_findSkippedLevels 41 = .ok (.aload_n 0, 1) := by decide +kernel
theorem dX7_findSkippedLevels_42 : decode cX7_findSkippedLevels 42 = .ok (.getfield 44, 3) := by decide +kernel
theorem dX7_findSkippedLevels_45 : decode cX7_findSkippedLevels 45 = .ok (.getfield 230, 3) := by decide +kernel
theorem dX7_findSkippedLevels_48 : decode cX7_findSkippedLevels 48 = .ok (.iload_n 2, 1) := by decide +kernel
theorem dX7_findSkippedLevels_49 : decode cX7_findSkippedLevels 49 = .ok (.iaload, 1) := by decide +kernel
theorem dX7_findSkippedLevels_50 : decode cX7_findSkippedLevels 50 = .ok (.iload_n 3, 1) := by decide +kernel
theorem dX7_findSkippedLevels_51 : decode cX7_findSkippedLevels 51 = .ok (.invokevirtual 265, 3) := by decide +kernel
theorem dX7_findSkippedLevels_54 : decode cX7_findSkippedLevels 54 = .ok (.iload_n 3, 1) := by decide +kernel
theorem dX7_findSkippedLevels_55 : decode cX7_findSkippedLevels 55 = .ok (.istore_n 1, 1) := by decide +kernel
theorem dX7_findSkippedLevels_56 : decode cX7_findSkippedLevels 56 = .ok (.iinc 2 1, 3) := by decide +kernel
theorem dX7_findSkippedLevels_59 : decode cX7_findSkippedLevels 59 = .ok (.goto (-51), 3) := by decide +kernel
theorem dX7_findSkippedLevels_62 : decode cX7_findSkippedLevels 62 = .ok (.return_, 1) := by decide +kernel
theorem dX7_findMisplaced_0 : decode cX7_findMisplaced 0 = .ok (.iconst 1, 1) := by decide +kernel
theorem dX7_findMisplaced_1 : decode cX7_findMisplaced 1 = .ok (.istore_n 1, 1) := by decide +kernel
theorem dX7_findMisplaced_2 : decode cX7_findMisplaced 2 = .ok (.iload_n 1, 1) := by decide +kernel
theorem dX7_findMisplaced_3 : decode cX7_findMisplaced 3 = .ok (.aload_n 0, 1) := by decide +kernel
theorem dX7_findMisplaced_4 : decode cX7_findMisplaced 4 = .ok (.getfield 21, 3) := by decide +kernel
theorem dX7_findMisplaced_7 : decode cX7_findMisplaced 7 = .ok (.getfield 116, 3) := by decide +kernel
theorem dX7_findMisplaced_10 : decode cX7_findMisplaced 10 = .ok (.if_icmp .ge 48, 3) := by decide +kernel
theorem dX7_findMisplaced_13 : decode cX7_findMisplaced 13 = .ok (.aload_n 0, 1) := by decide +kernel
theorem dX7_findMisplaced_14 : decode cX7_findMisplaced 14 = .ok (.getfield 21, 3) := by decide +kernel
theorem dX7_findMisplaced_17 : decode cX7_findMisplaced 17 = .ok (.iload_n 1, 1) := by decide +kernel
theorem dX7_findMisplaced_18 : decode cX7_findMisplaced 18 = .ok (.invokevirtual 253, 3) := by decide +kernel
theorem dX7_findMisplaced_21 : decode cX7_findMisplaced 21 = .ok (.aload_n 0, 1) := by decide +kernel
theorem dX7_findMisplaced_22 : decode cX7_findMisplaced 22 = .ok (.getfield 21, 3) := by decide +kernel
theorem dX7_findMisplaced_25 : decode cX7_findMisplaced 25 = .ok (.aload_n 0, 1) := by decide +kernel
theorem dX7_findMisplaced_26 : decode cX7_findMisplaced 26 = .ok (.getfield 21, 3) := by decide +kernel
theorem dX7_findMisplaced_29 : decode cX7_findMisplaced 29 = .ok (.iload_n 1, 1) := by decide +kernel
theorem dX7_findMisplaced_30 : decode cX7_findMisplaced 30 = .ok (.invokevirtual 268, 3) := by decide +kernel
theorem dX7_findMisplaced_33 : decode cX7_findMisplaced 33 = .ok (.invokevirtual 253, 3) := by decide +kernel
theorem dX7_findMisplaced_36 : decode cX7_findMisplaced 36 = .ok (.invokestatic 271, 3) := by decide +kernel
theorem dX7_findMisplaced_39 : decode cX7_findMisplaced 39 = .ok (.ifCond .eq 13, 3) := by decide +kernel
theorem dX7_findMisplaced_42 : decode cX7_findMisplaced 42 = .ok (.aload_n 0, 1) := by decide +kernel
theorem dX7_findMisplaced_43 : decode cX7_findMisplaced 43 = .ok (.getfield 58, 3) := by decide +kernel
theorem dX7_findMisplaced_46 : decode cX7_findMisplaced 46 = .ok (.iconst 4, 1) := by decide +kernel
theorem dX7_findMisplaced_47 : decode cX7_findMisplaced 47 = .ok (.iload_n 1, 1) := by decide +kernel
theorem dX7_findMisplaced_48 : decode cX7_findMisplaced 48 = .ok (.iconst 0, 1) := by decide +kernel
theorem dX7_findMisplaced_49 : decode cX7_findMisplaced 49 = .ok (.invokevirtual 265, 3) := by decide +kernel
theorem dX7_findMisplaced_52 : decode cX7_findMisplaced 52 = .ok (.iinc 1 1, 3) := by decide +kernel
theorem dX7_findMisplaced_55 : decode cX7_findMisplaced 55 = .ok (.goto (-53), 3) := by decide +kernel
theorem dX7_findMisplaced_58 : decode cX7_findMisplaced 58 = .ok (.return_, 1) := by decide +kernel
theorem dX7_isMisplaced_0 : decode cX7_isMisplaced 0 = .ok (.iload_n 0, 1) := by decide +kernel
theorem dX7_isMisplaced_1 : decode cX7_isMisplaced 1 = .ok (.invokestatic 274, 3) := by decide +kernel
theorem dX7_isMisplaced_4 : decode cX7_isMisplaced 4 = .ok (.istore_n 2, 1) := by decide +kernel
theorem dX7_isMisplaced_5 : decode cX7_isMisplaced 5 = .ok (.iload_n 2, 1) := by decide +kernel
theorem dX7_isMisplaced_6 : decode cX7_isMisplaced 6 = .ok (.iconst (-1), 1) := by decide +kernel
theorem dX7_isMisplaced_7 : decode cX7_isMisplaced 7 = .ok (.if_icmp .eq 10, 3) := by decide +kernel
theorem dX7_isMisplaced_10 : decode cX7_isMisplaced 10 = .ok (.iload_n 1, 1) := by decide +kernel
theorem dX7_isMisplaced_11 : decode cX7_isMisplaced 11 = .ok (.iload_n 2, 1) := by decide +kernel
theorem dX7_isMisplaced_12 : decode cX7_isMisplaced 12 = .ok (.if_icmp .eq 5, 3) := by decide +kernel
theorem dX7_isMisplaced_15 : decode cX7_isMisplaced 15 = .ok (.iconst 1, 1) := by decide +kernel
theorem dX7_isMisplaced_16 : decode cX7_isMisplaced 16 = .ok (.ireturn, 1) := by decide +kernel
theorem dX7_isMisplaced_17 : decode cX7_isMisplaced 17 = .ok (.iload_n 1, 1) := by decide +kernel
theorem dX7_isMisplaced_18 : decode cX7_isMisplaced 18 = .ok (.iconst 4, 1) := by decide +kernel
theorem dX7_isMisplaced_19 : decode cX7_isMisplaced 19 = .ok (.if_icmp .eq 15, 3) := by decide +kernel
theorem dX7_isMisplaced_22 : decode cX7_isMisplaced 22 = .ok (.iload_n 1, 1) := by decide +kernel
theorem dX7_isMisplaced_23 : decode cX7_isMisplaced 23 = .ok (.bipush 6, 2) := by decide +kernel
theorem dX7_isMisplaced_25 : decode cX7_isMisplaced 25 = .ok (.if_icmp .eq 9, 3) := by decide +kernel
theorem dX7_isMisplaced_28 : decode cX7_isMisplaced 28 = .ok (.iload_n 1, 1) := by decide +kernel
theorem dX7_isMisplaced_29 : decode cX7_isMisplaced 29 = .ok (.bipush 7, 2) := by decide +kernel
theorem dX7_isMisplaced_31 : decode cX7_isMisplaced 31 = .ok (.if_icmp .ne 7, 3) := by decide +kernel
theorem dX7_isMisplaced_34 : decode cX7_isMisplaced 34 = .ok (.iconst 1, 1) := by decide +kernel
theorem dX7_isMisplaced_35 : decode cX7_isMisplaced 35 = .ok (.goto 4, 3) := by decide +kernel
theorem dX7_isMisplaced_38 : decode cX7_isMisplaced 38 = .ok (.iconst 0, 1) := by decide +kernel
theorem dX7_isMisplaced_39 : decode cX7_isMisplaced 39 = .ok (.istore_n 3, 1) := by decide +kernel
theorem dX7_isMisplaced_40 : decode cX7_isMisplaced 40 = .ok (.iload_n 3, 1) := by decide +kernel
theorem dX7_isMisplaced_41 : decode cX7_isMisplaced 41 = .ok (.ifCond .eq 18, 3) := by decide +kernel
theorem dX7_isMisplaced_44 : decode cX7_isMisplaced 44 = .ok (.iload_n 0, 1) := by decide +kernel
theorem dX7_isMisplaced_45 : decode cX7_isMisplaced 45 = .ok (.bipush 12, 2) := by decide +kernel
theorem dX7_isMisplaced_47 : decode cX7_isMisplaced 47 = .ok (.if_icmp .eq 12, 3) := by decide +kernel
theorem dX7_isMisplaced_50 : decode cX7_isMisplaced 50 = .ok (.iload_n 2, 1) := by decide +kernel
theorem dX7_isMisplaced_51 : decode cX7_isMisplaced 51 = .ok (.iload_n 1, 1) := by decide +kernel
theorem dX7_isMisplaced_52 : decode cX7_isMisplaced 52 = .ok (.if_icmp .eq 7, 3) := by decide +kernel
theorem dX7_isMisplaced_55 : decode cX7_isMisplaced 55 = .ok (.iconst 1, 1) := by decide +kernel
theorem dX7_isMisplaced_56 : decode cX7_isMisplaced 56 = .ok (.goto 4, 3) := by decide +kernel
theorem dX7_isMisplaced_59 : decode cX7_isMisplaced 59 = .ok (.iconst 0, 1) := by decide +kernel
theorem dX7_isMisplaced_60 : decode cX7_isMisplaced 60 = .ok (.ireturn, 1) := by decide +kernel
theorem dX7_neededParent_0 : decode cX7_neededParent 0 = .ok (.iload_n 0, 1) := by decide +kernel
theorem dX7_neededParent_1 : decode cX7_neededParent 1 = .ok (.iconst 5, 1) := by decide +kernel
theorem dX7_neededParent_2 : decode cX7_neededParent 2 = .ok (.if_icmp .ne 5, 3) := by decide +kernel
theorem dX7_neededParent_5 : decode cX7_neededParent 5 = .ok (.iconst 4, 1) := by decide +kernel
theorem dX7_neededParent_6 : decode cX7_neededParent 6 = .ok (.ireturn, 1) := by decide +kernel
theorem dX7_neededParent_7 : decode cX7_neededParent 7 = .ok (.iload_n 0, 1) := by decide +kernel
theorem dX7_neededParent_8 : decode cX7_neededParent 8 = .ok (.bipush 7, 2) := by decide +kernel
theorem dX7_neededParent_10 : decode cX7_neededParent 10 = .ok (.if_icmp .ne 6, 3) := by decide +kernel
theorem dX7_neededParent_13 : decode cX7_neededParent 13 = .ok (.bipush 6, 2) := by decide +kernel
theorem dX7_neededParent_15 : decode cX7_neededParent 15 = .ok (.ireturn, 1) := by decide +kernel
theorem dX7_neededParent_16 : decode cX7_neededParent 16 = .ok (.iload_n 0, 1) := by decide +kernel
theorem dX7_neededParent_17 : decode cX7_neededParent 17 = .ok (.invokestatic 277, 3) := by decide +kernel
theorem dX7_neededParent_20 : decode cX7_neededParent 20 = .ok (.ifCond .eq 8, 3) := by decide +kernel
theorem dX7_neededParent_23 : decode cX7_neededParent 23 = .ok (.bipush 7, 2) := by decide +kernel
theorem dX7_neededParent_25 : decode cX7_neededParent 25 = .ok (.goto 4, 3) := by decide +kernel
theorem dX7_neededParent_28 : decode cX7_neededParent 28 = .ok (.iconst (-1), 1) := by decide +kernel
theorem dX7_neededParent_29 : decode cX7_neededParent 29 = .ok (.ireturn, 1) := by decide +kernel
theorem dX7_isCell_0 : decode cX7_isCell 0 = .ok (.iload_n 0, 1) := by decide +kernel
theorem dX7_isCell_1 : decode cX7_isCell 1 = .ok (.bipush 8, 2) := by decide +kernel
theorem dX7_isCell_3 : decode cX7_isCell 3 = .ok (.if_icmp .eq 9, 3) := by decide +kernel
theorem dX7_isCell_6 : decode cX7_isCell 6 = .ok (.iload_n 0, 1) := by decide +kernel
theorem dX7_isCell_7 : decode cX7_isCell 7 = .ok (.bipush 9, 2) := by decide +kernel
theorem dX7_isCell_9 : decode cX7_isCell 9 = .ok (.if_icmp .ne 7, 3) := by decide +kernel
theorem dX7_isCell_12 : decode cX7_isCell 12 = .ok (.iconst 1, 1) := by decide +kernel
theorem dX7_isCell_13 : decode cX7_isCell 13 = .ok (.goto 4, 3) := by decide +kernel
theorem dX7_isCell_16 : decode cX7_isCell 16 = .ok (.iconst 0, 1) := by decide +kernel
theorem dX7_isCell_17 : decode cX7_isCell 17 = .ok (.ireturn, 1) := by decide +kernel
theorem dX7_findUnevenTables_0 : decode cX7_findUnevenTables 0 = .ok (.iconst 0, 1) := by decide +kernel
theorem dX7_findUnevenTables_1 : decode cX7_findUnevenTables 1 = .ok (.istore_n 1, 1) := by decide +kernel
theorem dX7_findUnevenTables_2 : decode cX7_findUnevenTables 2 = .ok (.iload_n 1, 1) := by decide +kernel
theorem dX7_findUnevenTables_3 : decode cX7_findUnevenTables 3 = .ok (.aload_n 0, 1) := by decide +kernel
theorem dX7_findUnevenTables_4 : decode cX7_findUnevenTables 4 = .ok (.getfield 21, 3) := by decide +kernel
theorem dX7_findUnevenTables_7 : decode cX7_findUnevenTables 7 = .ok (.getfield 116, 3) := by decide +kernel
theorem dX7_findUnevenTables_10 : decode cX7_findUnevenTables 10 = .ok (.if_icmp .ge 40, 3) := by decide +kernel
theorem dX7_findUnevenTables_13 : decode cX7_findUnevenTables 13 = .ok (.aload_n 0, 1) := by decide +kernel
theorem dX7_findUnevenTables_14 : decode cX7_findUnevenTables 14 = .ok (.getfield 21, 3) := by decide +kernel
theorem dX7_findUnevenTables_17 : decode cX7_findUnevenTables 17 = .ok (.iload_n 1, 1) := by decide +kernel
theorem dX7_findUnevenTables_18 : decode cX7_findUnevenTables 18 = .ok (.invokevirtual 253, 3) := by decide +kernel
theorem dX7_findUnevenTables_21 : decode cX7_findUnevenTables 21 = .ok (.bipush 6, 2) := by decide +kernel
theorem dX7_findUnevenTables_23 : decode cX7_findUnevenTables 23 = .ok (.if_icmp .ne 21, 3) := by decide +kernel
theorem dX7_findUnevenTables_26 : decode cX7_findUnevenTables 26 = .ok (.aload_n 0, 1) := by decide +kernel
theorem dX7_findUnevenTables_27 : decode cX7_findUnevenTables 27 = .ok (.iload_n 1, 1) := by decide +kernel
theorem dX7_findUnevenTables_28 : decode cX7_findUnevenTables 28 = .ok (.invokevirtual 280, 3) := by decide +kernel
theorem dX7_findUnevenTables_31 : decode cX7_findUnevenTables 31 = .ok (.ifCond .eq 13, 3) := by decide +kernel
theorem dX7_findUnevenTables_34 : decode cX7_findUnevenTables 34 = .ok (.aload_n 0, 1) := by decide +kernel
theorem dX7_findUnevenTables_35 : decode cX7_findUnevenTables 35 = .ok (.getfield 58, 3) := by decide +kernel
theorem dX7_findUnevenTables_38 : decode cX7_findUnevenTables 38 = .ok (.iconst 5, 1) := by decide +kernel
theorem dX7_findUnevenTables_39 : decode cX7_findUnevenTables 39 = .ok (.iload_n 1, 1) := by decide +kernel
theorem dX7_findUnevenTables_40 : decode cX7_findUnevenTables 40 = .ok (.iconst 0, 1) := by decide +kernel
theorem dX7_findUnevenTables_41 : decode cX7_findUnevenTables 41 = .ok (.invokevirtual 265, 3) := by decide +kernel
theorem dX7_findUnevenTables_44 : decode cX7_findUnevenTables 44 = .ok (.iinc 1 1, 3) := by decide +kernel
theorem dX7_findUnevenTables_47 : decode cX7_findUnevenTables 47 = .ok (.goto (-45), 3) := by decide +kernel
theorem dX7_findUnevenTables_50 : decode cX7_findUnevenTables 50 = .ok (.return_, 1) := by decide +kernel
theorem dX7_isUneven_0 : decode cX7_isUneven 0 = .ok (.aload_n 0, 1) := by decide +kernel
theorem dX7_isUneven_1 : decode cX7_isUneven 1 = .ok (.getfield 51, 3) := by decide +kernel
theorem dX7_isUneven_4 : decode cX7_isUneven 4 = .ok (.invokevirtual 283, 3) := by decide +kernel
theorem dX7_isUneven_7 : decode cX7_isUneven 7 = .ok (.iload_n 1, 1) := by decide +kernel
theorem dX7_isUneven_8 : decode cX7_isUneven 8 = .ok (.iconst 1, 1) := by decide +kernel
theorem dX7_isUneven_9 : decode cX7_isUneven 9 = .ok (.iadd, 1) := by decide +kernel
theorem dX7_isUneven_10 : decode cX7_isUneven 10 = .ok (.istore_n 2, 1) := by decide +kernel
theorem dX7_isUneven_11 : decode cX7_isUneven 11 = .ok (.iload_n 2, 1) := by decide +kernel
theorem dX7_isUneven_12 : decode cX7_isUneven 12 = .ok (.aload_n 0, 1) := by decide +kernel
theorem dX7_isUneven_13 : decode cX7_isUneven 13 = .ok (.getfield 21, 3) := by decide +kernel
theorem dX7_isUneven_16 : decode cX7_isUneven 16 = .ok (.getfield 116, 3) := by decide +kernel
theorem dX7_isUneven_19 : decode cX7_isUneven 19 = .ok (.if_icmp .ge 53, 3) := by decide +kernel
theorem dX7_isUneven_22 : decode cX7_isUneven 22 = .ok (.aload_n 0, 1) := by decide +kernel
theorem dX7_isUneven_23 : decode cX7_isUneven 23 = .ok (.getfield 21, 3) := by decide +kernel
theorem dX7_isUneven_26 : decode cX7_isUneven 26 = .ok (.iload_n 2, 1) := by decide +kernel
theorem dX7_isUneven_27 : decode cX7_isUneven 27 = .ok (.invokevirtual 268, 3) := by decide +kernel
theorem dX7_isUneven_30 : decode cX7_isUneven 30 = .ok (.iload_n 1, 1) := by decide +kernel
theorem dX7_isUneven_31 : decode cX7_isUneven 31 = .ok (.if_icmp .ne 35, 3) := by decide +kernel
theorem dX7_isUneven_34 : decode cX7_isUneven 34 = .ok (.aload_n 0, 1) := by decide +kernel
theorem dX7_isUneven_35 : decode cX7_isUneven 35 = .ok (.getfield 21, 3) := by decide +kernel
theorem dX7_isUneven_38 : decode cX7_isUneven 38 = .ok (.iload_n 2, 1) := by decide +kernel
theorem dX7_isUneven_39 : decode cX7_isUneven 39 = .ok (.invokevirtual 253, 3) := by decide +kernel
theorem dX7_isUneven_42 : decode cX7_isUneven 42 = .ok (.bipush 7, 2) := by decide +kernel
theorem dX7_isUneven_44 : decode cX7_isUneven 44 = .ok (.if_icmp .ne 22, 3) := by decide +kernel
theorem dX7_isUneven_47 : decode cX7_isUneven 47 = .ok (.aload_n 0, 1) := by decide +kernel
theorem dX7_isUneven_48 : decode cX7_isUneven 48 = .ok (.getfield 51, 3) := by decide +kernel
theorem dX7_isUneven_51 : decode cX7_isUneven 51 = .ok (.invokevirtual 286, 3) := by decide +kernel
theorem dX7_isUneven_54 : decode cX7_isUneven 54 = .ok (.aload_n 0, 1) := by decide +kernel
theorem dX7_isUneven_55 : decode cX7_isUneven 55 = .ok (.iload_n 2, 1) := by decide +kernel
theorem dX7_isUneven_56 : decode cX7_isUneven 56 = .ok (.invokevirtual 289, 3) := by decide +kernel
theorem dX7_isUneven_59 : decode cX7_isUneven 59 = .ok (.aload_n 0, 1) := by decide +kernel
theorem dX7_isUneven_60 : decode cX7_isUneven 60 = .ok (.getfield 51, 3) := by decide +kernel
theorem dX7_isUneven_63 : decode cX7_isUneven 63 = .ok (.invokevirtual 292, 3) := by decide +kernel
theorem dX7_isUneven_66 : decode cX7_isUneven 66 = .ok (.iinc 2 1, 3) := by decide +kernel
theorem dX7_isUneven_69 : decode cX7_isUneven 69 = .ok (.goto (-58), 3) := by decide +kernel
theorem dX7_isUneven_72 : decode cX7_isUneven 72 = .ok (.aload_n 0, 1) := by decide +kernel
theorem dX7_isUneven_73 : decode cX7_isUneven 73 = .ok (.getfield 51, 3) := by decide +kernel
theorem dX7_isUneven_76 : decode cX7_isUneven 76 = .ok (.getfield 295, 3) := by decide +kernel
theorem dX7_isUneven_79 : decode cX7_isUneven 79 = .ok (.ireturn, 1) := by decide +kernel
theorem dX7_layCells_0 : decode cX7_layCells 0 = .ok (.iload_n 1, 1) := by decide +kernel
theorem dX7_layCells_1 : decode cX7_layCells 1 = .ok (.iconst 1, 1) := by decide +kernel
theorem dX7_layCells_2 : decode cX7_layCells 2 = .ok (.iadd, 1) := by decide +kernel
theorem dX7_layCells_3 : decode cX7_layCells 3 = .ok (.istore_n 2, 1) := by decide +kernel
theorem dX7_layCells_4 : decode cX7_layCells 4 = .ok (.iload_n 2, 1) := by decide +kernel
theorem dX7_layCells_5 : decode cX7_layCells 5 = .ok (.aload_n 0, 1) := by decide +kernel
theorem dX7_layCells_6 : decode cX7_layCells 6 = .ok (.getfield 21, 3) := by decide +kernel
theorem dX7_layCells_9 : decode cX7_layCells 9 = .ok (.getfield 116, 3) := by decide +kernel
theorem dX7_layCells_12 : decode cX7_layCells 12 = .ok (.if_icmp .ge 54, 3) := by decide +kernel
theorem dX7_layCells_15 : decode cX7_layCells 15 = .ok (.aload_n 0, 1) := by decide +kernel
theorem dX7_layCells_16 : decode cX7_layCells 16 = .ok (.getfield 21, 3) := by decide +kernel
theorem dX7_layCells_19 : decode cX7_layCells 19 = .ok (.iload_n 2, 1) := by decide +kernel
theorem dX7_layCells_20 : decode cX7_layCells 20 = .ok (.invokevirtual 268, 3) := by decide +kernel
theorem dX7_layCells_23 : decode cX7_layCells 23 = .ok (.iload_n 1, 1) := by decide +kernel
theorem dX7_layCells_24 : decode cX7_layCells 24 = .ok (.if_icmp .ne 36, 3) := by decide +kernel
theorem dX7_layCells_27 : decode cX7_layCells 27 = .ok (.aload_n 0, 1) := by decide +kernel
theorem dX7_layCells_28 : decode cX7_layCells 28 = .ok (.getfield 21, 3) := by decide +kernel
theorem dX7_layCells_31 : decode cX7_layCells 31 = .ok (.iload_n 2, 1) := by decide +kernel
theorem dX7_layCells_32 : decode cX7_layCells 32 = .ok (.invokevirtual 253, 3) := by decide +kernel
theorem dX7_layCells_35 : decode cX7_layCells 35 = .ok (.invokestatic 277, 3) := by decide +kernel
theorem dX7_layCells_38 : decode cX7_layCells 38 = .ok (.ifCond .eq 22, 3) := by decide +kernel
theorem dX7_layCells_41 : decode cX7_layCells 41 = .ok (.aload_n 0, 1) := by decide +kernel
theorem dX7_layCells_42 : decode cX7_layCells 42 = .ok (.getfield 51, 3) := by decide +kernel
theorem dX7_layCells_45 : decode cX7_layCells 45 = .ok (.aload_n 0, 1) := by decide +kernel
theorem dX7_layCells_46 : decode cX7_layCells 46 = .ok (.getfield 70, 3) := by decide +kernel
theorem dX7_layCells_49 : decode cX7_layCells 49 = .ok (.iload_n 2, 1) := by decide +kernel
theorem dX7_layCells_50 : decode cX7_layCells 50 = .ok (.iaload, 1) := by decide +kernel
theorem dX7_layCells_51 : decode cX7_layCells 51 = .ok (.aload_n 0, 1) := by decide +kernel
theorem dX7_layCells_52 : decode cX7_layCells 52 = .ok (.getfield 73, 3) := by decide +kernel
theorem dX7_layCells_55 : decode cX7_layCells 55 = .ok (.iload_n 2, 1) := by decide +kernel
theorem dX7_layCells_56 : decode cX7_layCells 56 = .ok (.iaload, 1) := by decide +kernel
theorem dX7_layCells_57 : decode cX7_layCells 57 = .ok (.invokevirtual 299, 3) := by decide +kernel
theorem dX7_layCells_60 : decode cX7_layCells 60 = .ok (.iinc 2 1, 3) := by decide +kernel
theorem dX7_layCells_63 : decode cX7_layCells 63 = .ok (.goto (-59), 3) := by decide +kernel
theorem dX7_layCells_66 : decode cX7_layCells 66 = .ok (.return_, 1) := by decide +kernel
theorem dX7_findFiguresWithoutWords_0 : decode cX7_findFiguresWithoutWords 0 = .ok (.iconst 0, 1) := by decide +kernel
theorem dX7_findFiguresWithoutWords_1 : decode cX7_findFiguresWithoutWords 1 = .ok (.istore_n 1, 1) := by decide +kernel
theorem dX7_findFiguresWithoutWords_2 : decode cX7_findFiguresWithoutWords 2 = .ok (.iload_n 1, 1) := by decide +kernel
theorem dX7_findFiguresWithoutWords_3 : decode cX7_findFiguresWithoutWords 3 = .ok (.aload_n 0, 1) := by decide +kernel
theorem dX7_findFiguresWithoutWords_4 : decode cX7_findFiguresWithoutWords 4 = .ok (.getfield 21, 3) := by decide +kernel
theorem dX7_findFiguresWithoutWords_7 : decode cX7_findFiguresWithoutWords 7 = .ok (.getfield 116, 3) := by decide +kernel
theorem dX7_findFiguresWithoutWords_10 : decode cX7_findFiguresWithoutWords 10 = .ok (.if_icmp .ge 42, 3) := by decide +kernel
theorem dX7_findFiguresWithoutWords_13 : decode cX7_findFiguresWithoutWords 13 = .ok (.aload_n 0, 1) := by decide +kernel
theorem dX7_findFiguresWithoutWords_14 : decode cX7_findFiguresWithoutWords 14 = .ok (.getfield 21, 3) := by decide +kernel
theorem dX7_findFiguresWithoutWords_17 : decode cX7_findFiguresWithoutWords 17 = .ok (.iload_n 1, 1) := by decide +kernel
theorem dX7_findFiguresWithoutWords_18 : decode cX7_findFiguresWithoutWords 18 = .ok (.invokevirtual 253, 3) := by decide +kernel
theorem dX7_findFiguresWithoutWords_21 : decode cX7_findFiguresWithoutWords 21 = .ok (.bipush 10, 2) := by decide +kernel
theorem dX7_findFiguresWithoutWords_23 : decode cX7_findFiguresWithoutWords 23 = .ok (.if_icmp .ne 23, 3) := by decide +kernel
theorem dX7_findFiguresWithoutWords_26 : decode cX7_findFiguresWithoutWords 26 = .ok (.aload_n 0, 1) := by decide +kernel
theorem dX7_findFiguresWithoutWords_27 : decode cX7_findFiguresWithoutWords 27 = .ok (.getfield 66, 3) := by decide +kernel
theorem dX7_findFiguresWithoutWords_30 : decode cX7_findFiguresWithoutWords 30 = .ok (.iload_n 1, 1) := by decide +kernel
theorem dX7_findFiguresWithoutWords_31 : decode cX7_findFiguresWithoutWords 31 = .ok (.baload, 1) := by decide +kernel
theorem dX7_findFiguresWithoutWords_32 : decode cX7_findFiguresWithoutWords 32 = .ok (.ifCond .ne 14, 3) := by decide +kernel
theorem dX7_findFiguresWithoutWords_35 : decode cX7_findFiguresWithoutWords 35 = .ok (.aload_n 0, 1) := by decide +kernel
theorem dX7_findFiguresWithoutWords_36 : decode cX7_findFiguresWithoutWords 36 = .ok (.getfield 58, 3) := by decide +kernel
theorem dX7_findFiguresWithoutWords_39 : decode cX7_findFiguresWithoutWords 39 = .ok (.bipush 6, 2) := by decide +kernel
theorem dX7_findFiguresWithoutWords_41 : decode cX7_findFiguresWithoutWords 41 = .ok (.iload_n 1, 1) := by decide +kernel
theorem dX7_findFiguresWithoutWords_42 : decode cX7_findFiguresWithoutWords 42 = .ok (.iconst 0, 1) := by decide +kernel
theorem dX7_findFiguresWithoutWords_43 : decode cX7_findFiguresWithoutWords 43 = .ok (.invokevirtual 265, 3) := by decide +kernel
theorem dX7_findFiguresWithoutWords_46 : decode cX7_findFiguresWithoutWords 46 = .ok (.iinc 1 1, 3) := by decide +kernel
theorem dX7_findFiguresWithoutWords_49 : decode cX7_findFiguresWithoutWords 49 = .ok (.goto (-47), 3) := by decide +kernel
theorem dX7_findFiguresWithoutWords_52 : decode cX7_findFiguresWithoutWords 52 = .ok (.return_, 1) := by decide +kernel
theorem dX7_findElementsWithoutKids_0 : decode cX7_findElementsWithoutKids 0 = .ok (.iconst 1, 1) := by decide +kernel
theorem dX7_findElementsWithoutKids_1 : decode cX7_findElementsWithoutKids 1 = .ok (.istore_n 1, 1) := by decide +kernel
theorem dX7_findElementsWithoutKids_2 : decode cX7_findElementsWithoutKids 2 = .ok (.iload_n 1, 1) := by decide +kernel
theorem dX7_findElementsWithoutKids_3 : decode cX7_findElementsWithoutKids 3 = .ok (.aload_n 0, 1) := by decide +kernel
theorem dX7_findElementsWithoutKids_4 : decode cX7_findElementsWithoutKids 4 = .ok (.getfield 21, 3) := by decide +kernel
theorem dX7_findElementsWithoutKids_7 : decode cX7_findElementsWithoutKids 7 = .ok (.getfield 116, 3) := by decide +kernel
theorem dX7_findElementsWithoutKids_10 : decode cX7_findElementsWithoutKids 10 = .ok (.if_icmp .ge 44, 3) := by decide +kernel
theorem dX7_findElementsWithoutKids_13 : decode cX7_findElementsWithoutKids 13 = .ok (.aload_n 0, 1) := by decide +kernel
theorem dX7_findElementsWithoutKids_14 : decode cX7_findElementsWithoutKids 14 = .ok (.getfield 21, 3) := by decide +kernel
theorem dX7_findElementsWithoutKids_17 : decode cX7_findElementsWithoutKids 17 = .ok (.iload_n 1, 1) := by decide +kernel
theorem dX7_findElementsWithoutKids_18 : decode cX7_findElementsWithoutKids 18 = .ok (.invokevirtual 302, 3) := by decide +kernel
theorem dX7_findElementsWithoutKids_21 : decode cX7_findElementsWithoutKids 21 = .ok (.ifCond .ne 27, 3) := by decide +kernel
theorem dX7_findElementsWithoutKids_24 : decode cX7_findElementsWithoutKids 24 = .ok (.aload_n 0, 1) := by decide +kernel
theorem dX7_findElementsWithoutKids_25 : decode cX7_findElementsWithoutKids 25 = .ok (.getfield 21, 3) := by decide +kernel
theorem dX7_findElementsWithoutKids_28 : decode cX7_findElementsWithoutKids 28 = .ok (.iload_n 1, 1) := by decide +kernel
theorem dX7_findElementsWithoutKids_29 : decode cX7_findElementsWithoutKids 29 = .ok (.invokevirtual 253, 3) := by decide +kernel
theorem dX7_findElementsWithoutKids_32 : decode cX7_findElementsWithoutKids 32 = .ok (.bipush 10, 2) := by decide +kernel
theorem dX7_findElementsWithoutKids_34 : decode cX7_findElementsWithoutKids 34 = .ok (.if_icmp .eq 14, 3) := by decide +kernel
theorem dX7_findElementsWithoutKids_37 : decode cX7_findElementsWithoutKids 37 = .ok (.aload_n 0, 1) := by decide +kernel
theorem dX7_findElementsWithoutKids_38 : decode cX7_findElementsWithoutKids 38 = .ok (.getfield 58, 3) := by decide +kernel
theorem dX7_findElementsWithoutKids_41 : decode cX7_findElementsWithoutKids 41 = .ok (.bipush 7, 2) := by decide +kernel
theorem dX7_findElementsWithoutKids_43 : decode cX7_findElementsWithoutKids 43 = .ok (.iload_n 1, 1) := by decide +kernel
theorem dX7_findElementsWithoutKids_44 : decode cX7_findElementsWithoutKids 44 = .ok (.iconst 0, 1) := by decide +kernel
theorem dX7_findElementsWithoutKids_45 : decode cX7_findElementsWithoutKids 45 = .ok (.invokevirtual 265, 3) := by decide +kernel
theorem dX7_findElementsWithoutKids_48 : decode cX7_findElementsWithoutKids 48 = .ok (.iinc 1 1, 3) := by decide +kernel
theorem dX7_findElementsWithoutKids_51 : decode cX7_findElementsWithoutKids 51 = .ok (.goto (-49), 3) := by decide +kernel
theorem dX7_findElementsWithoutKids_54 : decode cX7_findElementsWithoutKids 54 = .ok (.return_, 1) := by decide +kernel
theorem dX7_findRepeats_0 : decode cX7_findRepeats 0 = .ok (.iconst 0, 1) := by decide +kernel
theorem dX7_findRepeats_1 : decode cX7_findRepeats 1 = .ok (.istore_n 1, 1) := by decide +kernel
theorem dX7_findRepeats_2 : decode cX7_findRepeats 2 = .ok (.iload_n 1, 1) := by decide +kernel
theorem dX7_findRepeats_3 : decode cX7_findRepeats 3 = .ok (.aload_n 0, 1) := by decide +kernel
theorem dX7_findRepeats_4 : decode cX7_findRepeats 4 = .ok (.getfield 82, 3) := by decide +kernel
theorem dX7_findRepeats_7 : decode cX7_findRepeats 7 = .ok (.if_icmp .ge 30, 3) := by decide +kernel
theorem dX7_findRepeats_10 : decode cX7_findRepeats 10 = .ok (.aload_n 0, 1) := by decide +kernel
theorem dX7_findRepeats_11 : decode cX7_findRepeats 11 = .ok (.getfield 58, 3) := by decide +kernel
theorem dX7_findRepeats_14 : decode cX7_findRepeats 14 = .ok (.bipush 8, 2) := by decide +kernel
theorem dX7_findRepeats_16 : decode cX7_findRepeats 16 = .ok (.aload_n 0, 1) := by decide +kernel
theorem dX7_findRepeats_17 : decode cX7_findRepeats 17 = .ok (.getfield 76, 3) := by decide +kernel
theorem dX7_findRepeats_20 : decode cX7_findRepeats 20 = .ok (.iload_n 1, 1) := by decide +kernel
theorem dX7_findRepeats_21 : decode cX7_findRepeats 21 = .ok (.iaload, 1) := by decide +kernel
theorem dX7_findRepeats_22 : decode cX7_findRepeats 22 = .ok (.aload_n 0, 1) := by decide +kernel
theorem dX7_findRepeats_23 : decode cX7_findRepeats 23 = .ok (.getfield 79, 3) := by decide +kernel
theorem dX7_findRepeats_26 : decode cX7_findRepeats 26 = .ok (.iload_n 1, 1) := by decide +kernel
theorem dX7_findRepeats_27 : decode cX7_findRepeats 27 = .ok (.iaload, 1) := by decide +kernel
theorem dX7_findRepeats_28 : decode cX7_findRepeats 28 = .ok (.invokevirtual 265, 3) := by decide +kernel
theorem dX7_findRepeats_31 : decode cX7_findRepeats 31 = .ok (.iinc 1 1, 3) := by decide +kernel
theorem dX7_findRepeats_34 : decode cX7_findRepeats 34 = .ok (.goto (-32), 3) := by decide +kernel
theorem dX7_findRepeats_37 : decode cX7_findRepeats 37 = .ok (.return_, 1) := by decide +kernel
theorem dX7_findUntagged_0 : decode cX7_findUntagged 0 = .ok (.aload_n 0, 1) := by decide +kernel
theorem dX7_findUntagged_1 : decode cX7_findUntagged 1 = .ok (.invokevirtual 235, 3) := by decide +kernel
theorem dX7_findUntagged_4 : decode cX7_findUntagged 4 = .ok (.iconst 0, 1) := by decide +kernel
theorem dX7_findUntagged_5 : decode cX7_findUntagged 5 = .ok (.istore_n 1, 1) := by decide +kernel
theorem dX7_findUntagged_6 : decode cX7_findUntagged 6 = .ok (.iload_n 1, 1) := by decide +kernel
theorem dX7_findUntagged_7 : decode cX7_findUntagged 7 = .ok (.aload_n 0, 1) := by decide +kernel
theorem dX7_findUntagged_8 : decode cX7_findUntagged 8 = .ok (.getfield 89, 3) := by decide +kernel
theorem dX7_findUntagged_11 : decode cX7_findUntagged 11 = .ok (.if_icmp .ge 25, 3) := by decide +kernel
theorem dX7_findUntagged_14 : decode cX7_findUntagged 14 = .ok (.aload_n 0, 1) := by decide +kernel
theorem dX7_findUntagged_15 : decode cX7_findUntagged 15 = .ok (.getfield 58, 3) := by decide +kernel
theorem dX7_findUntagged_18 : decode cX7_findUntagged 18 = .ok (.bipush 9, 2) := by decide +kernel
theorem dX7_findUntagged_20 : decode cX7_findUntagged 20 = .ok (.iconst (-1), 1) := by decide +kernel
theorem dX7_findUntagged_21 : decode cX7_findUntagged 21 = .ok (.aload_n 0, 1) := by decide +kernel
theorem dX7_findUntagged_22 : decode cX7_findUntagged 22 = .ok (.getfield 86, 3) := by decide +kernel
theorem dX7_findUntagged_25 : decode cX7_findUntagged 25 = .ok (.iload_n 1, 1) := by decide +kernel
theorem dX7_findUntagged_26 : decode cX7_findUntagged 26 = .ok (.iaload, 1) := by decide +kernel
theorem dX7_findUntagged_27 : decode cX7_findUntagged 27 = .ok (.invokevirtual 265, 3) := by decide +kernel
theorem dX7_findUntagged_30 : decode cX7_findUntagged 30 = .ok (.iinc 1 1, 3) := by decide +kernel
theorem dX7_findUntagged_33 : decode cX7_findUntagged 33 = .ok (.goto (-27), 3) := by decide +kernel
theorem dX7_findUntagged_36 : decode cX7_findUntagged 36 = .ok (.return_, 1) := by decide +kernel
theorem dX7_findOutOfOrder_0 : decode cX7_findOutOfOrder 0 = .ok (.aload_n 0, 1) := by decide +kernel
theorem dX7_findOutOfOrder_1 : decode cX7_findOutOfOrder 1 = .ok (.getfield 30, 3) := by decide +kernel
theorem dX7_findOutOfOrder_4 : decode cX7_findOutOfOrder 4 = .ok (.invokevirtual 162, 3) := by decide +kernel
theorem dX7_findOutOfOrder_7 : decode cX7_findOutOfOrder 7 = .ok (.aload_n 0, 1) := by decide +kernel
theorem dX7_findOutOfOrder_8 : decode cX7_findOutOfOrder 8 = .ok (.getfield 92, 3) := by decide +kernel
theorem dX7_findOutOfOrder_11 : decode cX7_findOutOfOrder 11 = .ok (.iconst (-1), 1) := by decide +kernel
theorem dX7_findOutOfOrder_12 : decode cX7_findOutOfOrder 12 = .ok (.invokestatic 95, 3) := by decide +kernel
theorem dX7_findOutOfOrder_15 : decode cX7_findOutOfOrder 15 = .ok (.iconst 0, 1) := by decide +kernel
theorem dX7_findOutOfOrder_16 : decode cX7_findOutOfOrder 16 = .ok (.istore_n 1, 1) := by decide +kernel
theorem dX7_findOutOfOrder_17 : decode cX7_findOutOfOrder 17 = .ok (.iload_n 1, 1) := by decide +kernel
theorem dX7_findOutOfOrder_18 : decode cX7_findOutOfOrder 18 = .ok (.aload_n 0, 1) := by decide +kernel
theorem dX7_findOutOfOrder_19 : decode cX7_findOutOfOrder 19 = .ok (.getfield 30, 3) := by decide +kernel
theorem dX7_findOutOfOrder_22 : decode cX7_findOutOfOrder 22 = .ok (.getfield 165, 3) := by decide +kernel
theorem dX7_findOutOfOrder_25 : decode cX7_findOutOfOrder 25 = .ok (.if_icmp .ge 77, 3) := by decide +kernel
theorem dX7_findOutOfOrder_28 : decode cX7_findOutOfOrder 28 = .ok (.aload_n 0, 1) := by decide +kernel
theorem dX7_findOutOfOrder_29 : decode cX7_findOutOfOrder 29 = .ok (.getfield 30, 3) := by decide +kernel
theorem dX7_findOutOfOrder_32 : decode cX7_findOutOfOrder 32 = .ok (.getfield 174, 3) := by decide +kernel
theorem dX7_findOutOfOrder_35 : decode cX7_findOutOfOrder 35 = .ok (.iload_n 1, 1) := by decide +kernel
theorem dX7_findOutOfOrder_36 : decode cX7_findOutOfOrder 36 = .ok (.iaload, 1) := by decide +kernel
theorem dX7_findOutOfOrder_37 : decode cX7_findOutOfOrder 37 = .ok (.istore_n 2, 1) := by decide +kernel
theorem dX7_findOutOfOrder_38 : decode cX7_findOutOfOrder 38 = .ok (.iload_n 2, 1) := by decide +kernel
theorem dX7_findOutOfOrder_39 : decode cX7_findOutOfOrder 39 = .ok (.bipush 20, 2) := by decide +kernel
theorem dX7_findOutOfOrder_41 : decode cX7_findOutOfOrder 41 = .ok (.idiv, 1) := by decide +kernel
theorem dX7_findOutOfOrder_42 : decode cX7_findOutOfOrder 42 = .ok (.istore_n 3, 1) := by decide +kernel
theorem dX7_findOutOfOrder_43 : decode cX7_findOutOfOrder 43 = .ok (.aload_n 0, 1) := by decide +kernel
theorem dX7_findOutOfOrder_44 : decode cX7_findOutOfOrder 44 = .ok (.getfield 37, 3) := by decide +kernel
theorem dX7_findOutOfOrder_47 : decode cX7_findOutOfOrder 47 = .ok (.iload_n 2, 1) := by decide +kernel
theorem dX7_findOutOfOrder_48 : decode cX7_findOutOfOrder 48 = .ok (.invokevirtual 305, 3) := by decide +kernel
theorem dX7_findOutOfOrder_51 : decode cX7_findOutOfOrder 51 = .ok (.istore 4, 2) := by decide +kernel
theorem dX7_findOutOfOrder_53 : decode cX7_findOutOfOrder 53 = .ok (.iload 4, 2) := by decide +kernel
theorem dX7_findOutOfOrder_55 : decode cX7_findOutOfOrder 55 = .ok (.iconst (-1), 1) := by decide +kernel
theorem dX7_findOutOfOrder_56 : decode cX7_findOutOfOrder 56 = .ok (.if_icmp .eq 40, 3) := by decide +kernel
theorem dX7_findOutOfOrder_59 : decode cX7_findOutOfOrder 59 = .ok (.iload 4, 2) := by decide +kernel
theorem dX7_findOutOfOrder_61 : decode cX7_findOutOfOrder 61 = .ok (.aload_n 0, 1) := by decide +kernel
theorem dX7_findOutOfOrder_62 : decode cX7_findOutOfOrder 62 = .ok (.getfield 92, 3) := by decide +kernel
theorem dX7_findOutOfOrder_65 : decode cX7_findOutOfOrder 65 = .ok (.iload_n 3, 1) := by decide +kernel
theorem dX7_findOutOfOrder_66 : decode cX7_findOutOfOrder 66 = .ok (.iaload, 1) := by decide +kernel
theorem dX7_findOutOfOrder_67 : decode cX7_findOutOfOrder 67 = .ok (.if_icmp .ge 21, 3) := by decide +kernel
theorem dX7_findOutOfOrder_70 : decode cX7_findOutOfOrder 70 = .ok (.aload_n 0, 1) := by decide +kernel
theorem dX7_findOutOfOrder_71 : decode cX7_findOutOfOrder 71 = .ok (.getfield 58, 3) := by decide +kernel
theorem dX7_findOutOfOrder_74 : decode cX7_findOutOfOrder 74 = .ok (.bipush 10, 2) := by decide +kernel
theorem dX7_findOutOfOrder_76 : decode cX7_findOutOfOrder 76 = .ok (.aload_n 0, 1) := by decide +kernel
theorem dX7_findOutOfOrder_77 : decode cX7_findOutOfOrder 77 = .ok (.getfield 21, 3) := by decide +kernel
theorem dX7_findOutOfOrder_80 : decode cX7_findOutOfOrder 80 = .ok (.iload_n 2, 1) := by decide +kernel
theorem dX7_findOutOfOrder_81 : decode cX7_findOutOfOrder 81 = .ok (.invokevirtual 144, 3) := by decide +kernel
theorem dX7_findOutOfOrder_84 : decode cX7_findOutOfOrder 84 = .ok (.iload_n 2, 1) := by decide +kernel
theorem dX7_findOutOfOrder_85 : decode cX7_findOutOfOrder 85 = .ok (.invokevirtual 265, 3) := by decide +kernel
theorem dX7_findOutOfOrder_88 : decode cX7_findOutOfOrder 88 = .ok (.aload_n 0, 1) := by decide +kernel
theorem dX7_findOutOfOrder_89 : decode cX7_findOutOfOrder 89 = .ok (.getfield 92, 3) := by decide +kernel
theorem dX7_findOutOfOrder_92 : decode cX7_findOutOfOrder 92 = .ok (.iload_n 3, 1) := by decide +kernel
theorem dX7_findOutOfOrder_93 : decode cX7_findOutOfOrder 93 = .ok (.iload 4, 2) := by decide +kernel
theorem dX7_findOutOfOrder_95 : decode cX7_findOutOfOrder 95 = .ok (.iastore, 1) := by decide +kernel
theorem dX7_findOutOfOrder_96 : decode cX7_findOutOfOrder 96 = .ok (.iinc 1 1, 3) := by decide +kernel
theorem dX7_findOutOfOrder_99 : decode cX7_findOutOfOrder 99 = .ok (.goto (-82), 3) := by decide +kernel
theorem dX7_findOutOfOrder_102 : decode cX7_findOutOfOrder 102 = .ok (.return_, 1) := by decide +kernel
