theorem dL_element_0 : decode cL_element 0 = .ok (.aload_n 3, 1) := by decide +kernel
theorem dL_element_1 : decode cL_element 1 = .ok (.iconst 0, 1) := by decide +kernel
theorem dL_element_2 : decode cL_element 2 = .ok (.aload_n 0, 1) := by decide +kernel
theorem dL_element_3 : decode cL_element 3 = .ok (.iload_n 1, 1) := by decide +kernel
theorem dL_element_4 : decode cL_element 4 = .ok (.iload_n 2, 1) := by decide +kernel
theorem dL_element_5 : decode cL_element 5 = .ok (.invokevirtual 7, 3) := by decide +kernel
theorem dL_element_8 : decode cL_element 8 = .ok (.i2l, 1) := by decide +kernel
theorem dL_element_9 : decode cL_element 9 = .ok (.lastore, 1) := by decide +kernel
theorem dL_element_10 : decode cL_element 10 = .ok (.goto 15, 3) := by decide +kernel
theorem dL_element_13 : decode cL_element 13 = .ok (.astore 4, 2) := by decide +kernel
theorem dL_element_15 : decode cL_element 15 = .ok (.iconst 1, 1) := by decide +kernel
theorem dL_element_16 : decode cL_element 16 = .ok (.ireturn, 1) := by decide +kernel
theorem dL_element_17 : decode cL_element 17 = .ok (.astore 4, 2) := by decide +kernel
theorem dL_element_19 : decode cL_element 19 = .ok (.iconst 2, 1) := by decide +kernel
theorem dL_element_20 : decode cL_element 20 = .ok (.ireturn, 1) := by decide +kernel
theorem dL_element_21 : decode cL_element 21 = .ok (.astore 4, 2) := by decide +kernel
theorem dL_element_23 : decode cL_element 23 = .ok (.iconst 3, 1) := by decide +kernel
theorem dL_element_24 : decode cL_element 24 = .ok (.ireturn, 1) := by decide +kernel
theorem dL_element_25 : decode cL_element 25 = .ok (.iconst 0, 1) := by decide +kernel
theorem dL_element_26 : decode cL_element 26 = .ok (.ireturn, 1) := by decide +kernel
theorem dL_map_0 : decode cL_map 0 = .ok (.aload_n 3, 1) := by decide +kernel
theorem dL_map_1 : decode cL_map 1 = .ok (.iconst 0, 1) := by decide +kernel
theorem dL_map_2 : decode cL_map 2 = .ok (.aload_n 0, 1) := by decide +kernel
theorem dL_map_3 : decode cL_map 3 = .ok (.iload_n 1, 1) := by decide +kernel
theorem dL_map_4 : decode cL_map 4 = .ok (.iload_n 2, 1) := by decide +kernel
theorem dL_map_5 : decode cL_map 5 = .ok (.invokevirtual 19, 3) := by decide +kernel
theorem dL_map_8 : decode cL_map 8 = .ok (.i2l, 1) := by decide +kernel
theorem dL_map_9 : decode cL_map 9 = .ok (.lastore, 1) := by decide +kernel
theorem dL_map_10 : decode cL_map 10 = .ok (.goto 7, 3) := by decide +kernel
theorem dL_map_13 : decode cL_map 13 = .ok (.astore 4, 2) := by decide +kernel
theorem dL_map_15 : decode cL_map 15 = .ok (.iconst 1, 1) := by decide +kernel
theorem dL_map_16 : decode cL_map 16 = .ok (.ireturn, 1) := by decide +kernel
theorem dL_map_17 : decode cL_map 17 = .ok (.iconst 0, 1) := by decide +kernel
theorem dL_map_18 : decode cL_map 18 = .ok (.ireturn, 1) := by decide +kernel
theorem dL_content_0 : decode cL_content 0 = .ok (.aload 4, 2) := by decide +kernel
theorem dL_content_2 : decode cL_content 2 = .ok (.iconst 0, 1) := by decide +kernel
theorem dL_content_3 : decode cL_content 3 = .ok (.aload_n 0, 1) := by decide +kernel
theorem dL_content_4 : decode cL_content 4 = .ok (.iload_n 1, 1) := by decide +kernel
theorem dL_content_5 : decode cL_content 5 = .ok (.iload_n 2, 1) := by decide +kernel
theorem dL_content_6 : decode cL_content 6 = .ok (.iload_n 3, 1) := by decide +kernel
theorem dL_content_7 : decode cL_content 7 = .ok (.invokevirtual 22, 3) := by decide +kernel
theorem dL_content_10 : decode cL_content 10 = .ok (.i2l, 1) := by decide +kernel
theorem dL_content_11 : decode cL_content 11 = .ok (.lastore, 1) := by decide +kernel
theorem dL_content_12 : decode cL_content 12 = .ok (.goto 15, 3) := by decide +kernel
theorem dL_content_15 : decode cL_content 15 = .ok (.astore 5, 2) := by decide +kernel
theorem dL_content_17 : decode cL_content 17 = .ok (.iconst 1, 1) := by decide +kernel
theorem dL_content_18 : decode cL_content 18 = .ok (.ireturn, 1) := by decide +kernel
theorem dL_content_19 : decode cL_content 19 = .ok (.astore 5, 2) := by decide +kernel
theorem dL_content_21 : decode cL_content 21 = .ok (.iconst 2, 1) := by decide +kernel
theorem dL_content_22 : decode cL_content 22 = .ok (.ireturn, 1) := by decide +kernel
theorem dL_content_23 : decode cL_content 23 = .ok (.astore 5, 2) := by decide +kernel
theorem dL_content_25 : decode cL_content 25 = .ok (.iconst 3, 1) := by decide +kernel
theorem dL_content_26 : decode cL_content 26 = .ok (.ireturn, 1) := by decide +kernel
theorem dL_content_27 : decode cL_content 27 = .ok (.iconst 0, 1) := by decide +kernel
theorem dL_content_28 : decode cL_content 28 = .ok (.ireturn, 1) := by decide +kernel
theorem dL_shows_0 : decode cL_shows 0 = .ok (.aload_n 3, 1) := by decide +kernel
theorem dL_shows_1 : decode cL_shows 1 = .ok (.iconst 0, 1) := by decide +kernel
theorem dL_shows_2 : decode cL_shows 2 = .ok (.aload_n 0, 1) := by decide +kernel
theorem dL_shows_3 : decode cL_shows 3 = .ok (.iload_n 1, 1) := by decide +kernel
theorem dL_shows_4 : decode cL_shows 4 = .ok (.iload_n 2, 1) := by decide +kernel
theorem dL_shows_5 : decode cL_shows 5 = .ok (.invokevirtual 26, 3) := by decide +kernel
theorem dL_shows_8 : decode cL_shows 8 = .ok (.i2l, 1) := by decide +kernel
theorem dL_shows_9 : decode cL_shows 9 = .ok (.lastore, 1) := by decide +kernel
theorem dL_shows_10 : decode cL_shows 10 = .ok (.goto 7, 3) := by decide +kernel
theorem dL_shows_13 : decode cL_shows 13 = .ok (.astore 4, 2) := by decide +kernel
theorem dL_shows_15 : decode cL_shows 15 = .ok (.iconst 1, 1) := by decide +kernel
theorem dL_shows_16 : decode cL_shows 16 = .ok (.ireturn, 1) := by decide +kernel
theorem dL_shows_17 : decode cL_shows 17 = .ok (.iconst 0, 1) := by decide +kernel
theorem dL_shows_18 : decode cL_shows 18 = .ok (.ireturn, 1) := by decide +kernel
theorem dL_at_0 : decode cL_at 0 = .ok (.aload_n 3, 1) := by decide +kernel
theorem dL_at_1 : decode cL_at 1 = .ok (.iconst 0, 1) := by decide +kernel
theorem dL_at_2 : decode cL_at 2 = .ok (.aload_n 0, 1) := by decide +kernel
theorem dL_at_3 : decode cL_at 3 = .ok (.iload_n 1, 1) := by decide +kernel
theorem dL_at_4 : decode cL_at 4 = .ok (.iload_n 2, 1) := by decide +kernel
theorem dL_at_5 : decode cL_at 5 = .ok (.invokevirtual 29, 3) := by decide +kernel
theorem dL_at_8 : decode cL_at 8 = .ok (.i2l, 1) := by decide +kernel
theorem dL_at_9 : decode cL_at 9 = .ok (.lastore, 1) := by decide +kernel
theorem dL_at_10 : decode cL_at 10 = .ok (.goto 7, 3) := by decide +kernel
theorem dL_at_13 : decode cL_at 13 = .ok (.astore 4, 2) := by decide +kernel
theorem dL_at_15 : decode cL_at 15 = .ok (.iconst 1, 1) := by decide +kernel
theorem dL_at_16 : decode cL_at 16 = .ok (.ireturn, 1) := by decide +kernel
theorem dL_at_17 : decode cL_at 17 = .ok (.iconst 0, 1) := by decide +kernel
theorem dL_at_18 : decode cL_at 18 = .ok (.ireturn, 1) := by decide +kernel
theorem dL_parent_0 : decode cL_parent 0 = .ok (.aload_n 3, 1) := by decide +kernel
theorem dL_parent_1 : decode cL_parent 1 = .ok (.iconst 0, 1) := by decide +kernel
theorem dL_parent_2 : decode cL_parent 2 = .ok (.aload_n 0, 1) := by decide +kernel
theorem dL_parent_3 : decode cL_parent 3 = .ok (.iload_n 1, 1) := by decide +kernel
theorem dL_parent_4 : decode cL_parent 4 = .ok (.iload_n 2, 1) := by decide +kernel
theorem dL_parent_5 : decode cL_parent 5 = .ok (.invokevirtual 34, 3) := by decide +kernel
theorem dL_parent_8 : decode cL_parent 8 = .ok (.i2l, 1) := by decide +kernel
theorem dL_parent_9 : decode cL_parent 9 = .ok (.lastore, 1) := by decide +kernel
theorem dL_parent_10 : decode cL_parent 10 = .ok (.goto 7, 3) := by decide +kernel
theorem dL_parent_13 : decode cL_parent 13 = .ok (.astore 4, 2) := by decide +kernel
theorem dL_parent_15 : decode cL_parent 15 = .ok (.iconst 1, 1) := by decide +kernel
theorem dL_parent_16 : decode cL_parent 16 = .ok (.ireturn, 1) := by decide +kernel
theorem dL_parent_17 : decode cL_parent 17 = .ok (.iconst 0, 1) := by decide +kernel
theorem dL_parent_18 : decode cL_parent 18 = .ok (.ireturn, 1) := by decide +kernel
theorem dL_fault_0 : decode cL_fault 0 = .ok (.aload_n 3, 1) := by decide +kernel
theorem dL_fault_1 : decode cL_fault 1 = .ok (.iconst 0, 1) := by decide +kernel
theorem dL_fault_2 : decode cL_fault 2 = .ok (.aload_n 0, 1) := by decide +kernel
theorem dL_fault_3 : decode cL_fault 3 = .ok (.iload_n 1, 1) := by decide +kernel
theorem dL_fault_4 : decode cL_fault 4 = .ok (.iload_n 2, 1) := by decide +kernel
theorem dL_fault_5 : decode cL_fault 5 = .ok (.invokevirtual 37, 3) := by decide +kernel
theorem dL_fault_8 : decode cL_fault 8 = .ok (.i2l, 1) := by decide +kernel
theorem dL_fault_9 : decode cL_fault 9 = .ok (.lastore, 1) := by decide +kernel
theorem dL_fault_10 : decode cL_fault 10 = .ok (.goto 7, 3) := by decide +kernel
theorem dL_fault_13 : decode cL_fault 13 = .ok (.astore 4, 2) := by decide +kernel
theorem dL_fault_15 : decode cL_fault 15 = .ok (.iconst 1, 1) := by decide +kernel
theorem dL_fault_16 : decode cL_fault 16 = .ok (.ireturn, 1) := by decide +kernel
theorem dL_fault_17 : decode cL_fault 17 = .ok (.iconst 0, 1) := by decide +kernel
theorem dL_fault_18 : decode cL_fault 18 = .ok (.ireturn, 1) := by decide +kernel
theorem dL_heading_0 : decode cL_heading 0 = .ok (.aload_n 3, 1) := by decide +kernel
theorem dL_heading_1 : decode cL_heading 1 = .ok (.iconst 0, 1) := by decide +kernel
theorem dL_heading_2 : decode cL_heading 2 = .ok (.aload_n 0, 1) := by decide +kernel
theorem dL_heading_3 : decode cL_heading 3 = .ok (.iload_n 1, 1) := by decide +kernel
theorem dL_heading_4 : decode cL_heading 4 = .ok (.iload_n 2, 1) := by decide +kernel
theorem dL_heading_5 : decode cL_heading 5 = .ok (.invokevirtual 40, 3) := by decide +kernel
theorem dL_heading_8 : decode cL_heading 8 = .ok (.i2l, 1) := by decide +kernel
theorem dL_heading_9 : decode cL_heading 9 = .ok (.lastore, 1) := by decide +kernel
theorem dL_heading_10 : decode cL_heading 10 = .ok (.goto 11, 3) := by decide +kernel
theorem dL_heading_13 : decode cL_heading 13 = .ok (.astore 4, 2) := by decide +kernel
theorem dL_heading_15 : decode cL_heading 15 = .ok (.iconst 1, 1) := by decide +kernel
theorem dL_heading_16 : decode cL_heading 16 = .ok (.ireturn, 1) := by decide +kernel
theorem dL_heading_17 : decode cL_heading 17 = .ok (.astore 4, 2) := by decide +kernel
theorem dL_heading_19 : decode cL_heading 19 = .ok (.iconst 2, 1) := by decide +kernel
theorem dL_heading_20 : decode cL_heading 20 = .ok (.ireturn, 1) := by decide +kernel
theorem dL_heading_21 : decode cL_heading 21 = .ok (.iconst 0, 1) := by decide +kernel
theorem dL_heading_22 : decode cL_heading 22 = .ok (.ireturn, 1) := by decide +kernel
theorem dL_words_0 : decode cL_words 0 = .ok (.aload_n 3, 1) := by decide +kernel
theorem dL_words_1 : decode cL_words 1 = .ok (.iconst 0, 1) := by decide +kernel
theorem dL_words_2 : decode cL_words 2 = .ok (.aload_n 0, 1) := by decide +kernel
theorem dL_words_3 : decode cL_words 3 = .ok (.iload_n 1, 1) := by decide +kernel
theorem dL_words_4 : decode cL_words 4 = .ok (.iload_n 2, 1) := by decide +kernel
theorem dL_words_5 : decode cL_words 5 = .ok (.invokevirtual 43, 3) := by decide +kernel
theorem dL_words_8 : decode cL_words 8 = .ok (.i2l, 1) := by decide +kernel
theorem dL_words_9 : decode cL_words 9 = .ok (.lastore, 1) := by decide +kernel
theorem dL_words_10 : decode cL_words 10 = .ok (.goto 7, 3) := by decide +kernel
theorem dL_words_13 : decode cL_words 13 = .ok (.astore 4, 2) := by decide +kernel
theorem dL_words_15 : decode cL_words 15 = .ok (.iconst 1, 1) := by decide +kernel
theorem dL_words_16 : decode cL_words 16 = .ok (.ireturn, 1) := by decide +kernel
theorem dL_words_17 : decode cL_words 17 = .ok (.iconst 0, 1) := by decide +kernel
theorem dL_words_18 : decode cL_words 18 = .ok (.ireturn, 1) := by decide +kernel
theorem dL_span_0 : decode cL_span 0 = .ok (.aload 4, 2) := by decide +kernel
theorem dL_span_2 : decode cL_span 2 = .ok (.iconst 0, 1) := by decide +kernel
theorem dL_span_3 : decode cL_span 3 = .ok (.aload_n 0, 1) := by decide +kernel
theorem dL_span_4 : decode cL_span 4 = .ok (.iload_n 1, 1) := by decide +kernel
theorem dL_span_5 : decode cL_span 5 = .ok (.iload_n 2, 1) := by decide +kernel
theorem dL_span_6 : decode cL_span 6 = .ok (.iload_n 3, 1) := by decide +kernel
theorem dL_span_7 : decode cL_span 7 = .ok (.invokevirtual 47, 3) := by decide +kernel
theorem dL_span_10 : decode cL_span 10 = .ok (.i2l, 1) := by decide +kernel
theorem dL_span_11 : decode cL_span 11 = .ok (.lastore, 1) := by decide +kernel
theorem dL_span_12 : decode cL_span 12 = .ok (.goto 11, 3) := by decide +kernel
theorem dL_span_15 : decode cL_span 15 = .ok (.astore 5, 2) := by decide +kernel
theorem dL_span_17 : decode cL_span 17 = .ok (.iconst 1, 1) := by decide +kernel
theorem dL_span_18 : decode cL_span 18 = .ok (.ireturn, 1) := by decide +kernel
theorem dL_span_19 : decode cL_span 19 = .ok (.astore 5, 2) := by decide +kernel
theorem dL_span_21 : decode cL_span 21 = .ok (.iconst 2, 1) := by decide +kernel
theorem dL_span_22 : decode cL_span 22 = .ok (.ireturn, 1) := by decide +kernel
theorem dL_span_23 : decode cL_span 23 = .ok (.iconst 0, 1) := by decide +kernel
theorem dL_span_24 : decode cL_span 24 = .ok (.ireturn, 1) := by decide +kernel
theorem dL_outline_0 : decode cL_outline 0 = .ok (.aload_n 3, 1) := by decide +kernel
theorem dL_outline_1 : decode cL_outline 1 = .ok (.iconst 0, 1) := by decide +kernel
theorem dL_outline_2 : decode cL_outline 2 = .ok (.aload_n 0, 1) := by decide +kernel
theorem dL_outline_3 : decode cL_outline 3 = .ok (.iload_n 1, 1) := by decide +kernel
theorem dL_outline_4 : decode cL_outline 4 = .ok (.iload_n 2, 1) := by decide +kernel
theorem dL_outline_5 : decode cL_outline 5 = .ok (.invokevirtual 50, 3) := by decide +kernel
theorem dL_outline_8 : decode cL_outline 8 = .ok (.i2l, 1) := by decide +kernel
theorem dL_outline_9 : decode cL_outline 9 = .ok (.lastore, 1) := by decide +kernel
theorem dL_outline_10 : decode cL_outline 10 = .ok (.goto 7, 3) := by decide +kernel
theorem dL_outline_13 : decode cL_outline 13 = .ok (.astore 4, 2) := by decide +kernel
theorem dL_outline_15 : decode cL_outline 15 = .ok (.iconst 1, 1) := by decide +kernel
theorem dL_outline_16 : decode cL_outline 16 = .ok (.ireturn, 1) := by decide +kernel
theorem dL_outline_17 : decode cL_outline 17 = .ok (.iconst 0, 1) := by decide +kernel
theorem dL_outline_18 : decode cL_outline 18 = .ok (.ireturn, 1) := by decide +kernel
theorem dL_untagged_0 : decode cL_untagged 0 = .ok (.aload_n 2, 1) := by decide +kernel
theorem dL_untagged_1 : decode cL_untagged 1 = .ok (.iconst 0, 1) := by decide +kernel
theorem dL_untagged_2 : decode cL_untagged 2 = .ok (.aload_n 0, 1) := by decide +kernel
theorem dL_untagged_3 : decode cL_untagged 3 = .ok (.iload_n 1, 1) := by decide +kernel
theorem dL_untagged_4 : decode cL_untagged 4 = .ok (.invokevirtual 53, 3) := by decide +kernel
theorem dL_untagged_7 : decode cL_untagged 7 = .ok (.i2l, 1) := by decide +kernel
theorem dL_untagged_8 : decode cL_untagged 8 = .ok (.lastore, 1) := by decide +kernel
theorem dL_untagged_9 : decode cL_untagged 9 = .ok (.goto 6, 3) := by decide +kernel
theorem dL_untagged_12 : decode cL_untagged 12 = .ok (.astore_n 3, 1) := by decide +kernel
theorem dL_untagged_13 : decode cL_untagged 13 = .ok (.iconst 1, 1) := by decide +kernel
theorem dL_untagged_14 : decode cL_untagged 14 = .ok (.ireturn, 1) := by decide +kernel
theorem dL_untagged_15 : decode cL_untagged 15 = .ok (.iconst 0, 1) := by decide +kernel
theorem dL_untagged_16 : decode cL_untagged 16 = .ok (.ireturn, 1) := by decide +kernel
theorem dL_law_0 : decode cL_law 0 = .ok (.new 8, 3) := by decide +kernel
theorem dL_law_3 : decode cL_law 3 = .ok (.dup, 1) := by decide +kernel
theorem dL_law_4 : decode cL_law 4 = .ok (.invokespecial 57, 3) := by decide +kernel
theorem dL_law_7 : decode cL_law 7 = .ok (.astore_n 1, 1) := by decide +kernel
theorem dL_law_8 : decode cL_law 8 = .ok (.new 58, 3) := by decide +kernel
theorem dL_law_11 : decode cL_law 11 = .ok (.dup, 1) := by decide +kernel
theorem dL_law_12 : decode cL_law 12 = .ok (.invokespecial 60, 3) := by decide +kernel
theorem dL_law_15 : decode cL_law 15 = .ok (.astore_n 2, 1) := by decide +kernel
theorem dL_law_16 : decode cL_law 16 = .ok (.iconst 1, 1) := by decide +kernel
theorem dL_law_17 : decode cL_law 17 = .ok (.newarray .long, 2) := by decide +kernel
theorem dL_law_19 : decode cL_law 19 = .ok (.astore_n 3, 1) := by decide +kernel
theorem dL_law_20 : decode cL_law 20 = .ok (.iconst 0, 1) := by decide +kernel
theorem dL_law_21 : decode cL_law 21 = .ok (.istore 4, 2) := by decide +kernel
theorem dL_law_23 : decode cL_law 23 = .ok (.iload 4, 2) := by decide +kernel
theorem dL_law_25 : decode cL_law 25 = .ok (.aload_n 0, 1) := by decide +kernel
theorem dL_law_26 : decode cL_law 26 = .ok (.arraylength, 1) := by decide +kernel
theorem dL_law_27 : decode cL_law 27 = .ok (.iconst 4, 1) := by decide +kernel
theorem dL_law_28 : decode cL_law 28 = .ok (.isub, 1) := by decide +kernel
theorem dL_law_29 : decode cL_law 29 = .ok (.if_icmp .gt 955, 3) := by decide +kernel
theorem dL_law_32 : decode cL_law 32 = .ok (.aload_n 0, 1) := by decide +kernel
theorem dL_law_33 : decode cL_law 33 = .ok (.iload 4, 2) := by decide +kernel
theorem dL_law_35 : decode cL_law 35 = .ok (.iaload, 1) := by decide +kernel
theorem dL_law_36 : decode cL_law 36 = .ok (.bipush 15, 2) := by decide +kernel
theorem dL_law_38 : decode cL_law 38 = .ok (.iand, 1) := by decide +kernel
theorem dL_law_39 : decode cL_law 39 = .ok (.tableswitch 939 0 13 #[69, 137, 205, 285, 353, 366, 434, 502, 515, 583, 651, 735, 815, 883], 69) := by decide +kernel
theorem dL_law_108 : decode cL_law 108 = .ok (.aload_n 1, 1) := by decide +kernel
theorem dL_law_109 : decode cL_law 109 = .ok (.aload_n 0, 1) := by decide +kernel
theorem dL_law_110 : decode cL_law 110 = .ok (.iload 4, 2) := by decide +kernel
theorem dL_law_112 : decode cL_law 112 = .ok (.iconst 1, 1) := by decide +kernel
theorem dL_law_113 : decode cL_law 113 = .ok (.iadd, 1) := by decide +kernel
theorem dL_law_114 : decode cL_law 114 = .ok (.iaload, 1) := by decide +kernel
theorem dL_law_115 : decode cL_law 115 = .ok (.aload_n 0, 1) := by decide +kernel
theorem dL_law_116 : decode cL_law 116 = .ok (.iload 4, 2) := by decide +kernel
theorem dL_law_118 : decode cL_law 118 = .ok (.iconst 2, 1) := by decide +kernel
theorem dL_law_119 : decode cL_law 119 = .ok (.iadd, 1) := by decide +kernel
theorem dL_law_120 : decode cL_law 120 = .ok (.iaload, 1) := by decide +kernel
theorem dL_law_121 : decode cL_law 121 = .ok (.aload_n 3, 1) := by decide +kernel
theorem dL_law_122 : decode cL_law 122 = .ok (.invokestatic 61, 3) := by decide +kernel
theorem dL_law_125 : decode cL_law 125 = .ok (.istore 5, 2) := by decide +kernel
theorem dL_law_127 : decode cL_law 127 = .ok (.aload_n 2, 1) := by decide +kernel
theorem dL_law_128 : decode cL_law 128 = .ok (.aload_n 0, 1) := by decide +kernel
theorem dL_law_129 : decode cL_law 129 = .ok (.iload 4, 2) := by decide +kernel
theorem dL_law_131 : decode cL_law 131 = .ok (.iconst 1, 1) := by decide +kernel
theorem dL_law_132 : decode cL_law 132 = .ok (.iadd, 1) := by decide +kernel
theorem dL_law_133 : decode cL_law 133 = .ok (.iaload, 1) := by decide +kernel
theorem dL_law_134 : decode cL_law 134 = .ok (.aload_n 0, 1) := by decide +kernel
theorem dL_law_135 : decode cL_law 135 = .ok (.iload 4, 2) := by decide +kernel
theorem dL_law_137 : decode cL_law 137 = .ok (.iconst 2, 1) := by decide +kernel
theorem dL_law_138 : decode cL_law 138 = .ok (.iadd, 1) := by decide +kernel
theorem dL_law_139 : decode cL_law 139 = .ok (.iaload, 1) := by decide +kernel
theorem dL_law_140 : decode cL_law 140 = .ok (.invokevirtual 66, 3) := by decide +kernel
theorem dL_law_143 : decode cL_law 143 = .ok (.istore 6, 2) := by decide +kernel
theorem dL_law_145 : decode cL_law 145 = .ok (.aload_n 2, 1) := by decide +kernel
theorem dL_law_146 : decode cL_law 146 = .ok (.invokevirtual 67, 3) := by decide +kernel
theorem dL_law_149 : decode cL_law 149 = .ok (.iload 5, 2) := by decide +kernel
theorem dL_law_151 : decode cL_law 151 = .ok (.if_icmp .eq 5, 3) := by decide +kernel
theorem dL_law_154 : decode cL_law 154 = .ok (.iconst 0, 1) := by decide +kernel
theorem dL_law_155 : decode cL_law 155 = .ok (.ireturn, 1) := by decide +kernel
theorem dL_law_156 : decode cL_law 156 = .ok (.iload 5, 2) := by decide +kernel
theorem dL_law_158 : decode cL_law 158 = .ok (.ifCond .ne 15, 3) := by decide +kernel
theorem dL_law_161 : decode cL_law 161 = .ok (.aload_n 3, 1) := by decide +kernel
theorem dL_law_162 : decode cL_law 162 = .ok (.iconst 0, 1) := by decide +kernel
theorem dL_law_163 : decode cL_law 163 = .ok (.laload, 1) := by decide +kernel
theorem dL_law_164 : decode cL_law 164 = .ok (.iload 6, 2) := by decide +kernel
theorem dL_law_166 : decode cL_law 166 = .ok (.i2l, 1) := by decide +kernel
theorem dL_law_167 : decode cL_law 167 = .ok (.lcmp, 1) := by decide +kernel
theorem dL_law_168 : decode cL_law 168 = .ok (.ifCond .eq 5, 3) := by decide +kernel
theorem dL_law_171 : decode cL_law 171 = .ok (.iconst 0, 1) := by decide +kernel
theorem dL_law_172 : decode cL_law 172 = .ok (.ireturn, 1) := by decide +kernel
theorem dL_law_173 : decode cL_law 173 = .ok (.goto 805, 3) := by decide +kernel
theorem dL_law_176 : decode cL_law 176 = .ok (.aload_n 1, 1) := by decide +kernel
theorem dL_law_177 : decode cL_law 177 = .ok (.aload_n 0, 1) := by decide +kernel
theorem dL_law_178 : decode cL_law 178 = .ok (.iload 4, 2) := by decide +kernel
theorem dL_law_180 : decode cL_law 180 = .ok (.iconst 1, 1) := by decide +kernel
theorem dL_law_181 : decode cL_law 181 = .ok (.iadd, 1) := by decide +kernel
theorem dL_law_182 : decode cL_law 182 = .ok (.iaload, 1) := by decide +kernel
theorem dL_law_183 : decode cL_law 183 = .ok (.aload_n 0, 1) := by decide +kernel
theorem dL_law_184 : decode cL_law 184 = .ok (.iload 4, 2) := by decide +kernel
theorem dL_law_186 : decode cL_law 186 = .ok (.iconst 2, 1) := by decide +kernel
theorem dL_law_187 : decode cL_law 187 = .ok (.iadd, 1) := by decide +kernel
theorem dL_law_188 : decode cL_law 188 = .ok (.iaload, 1) := by decide +kernel
theorem dL_law_189 : decode cL_law 189 = .ok (.aload_n 3, 1) := by decide +kernel
theorem dL_law_190 : decode cL_law 190 = .ok (.invokestatic 71, 3) := by decide +kernel
theorem dL_law_193 : decode cL_law 193 = .ok (.istore 5, 2) := by decide +kernel
theorem dL_law_195 : decode cL_law 195 = .ok (.aload_n 2, 1) := by decide +kernel
theorem dL_law_196 : decode cL_law 196 = .ok (.aload_n 0, 1) := by decide +kernel
theorem dL_law_197 : decode cL_law 197 = .ok (.iload 4, 2) := by decide +kernel
theorem dL_law_199 : decode cL_law 199 = .ok (.iconst 1, 1) := by decide +kernel
theorem dL_law_200 : decode cL_law 200 = .ok (.iadd, 1) := by decide +kernel
theorem dL_law_201 : decode cL_law 201 = .ok (.iaload, 1) := by decide +kernel
theorem dL_law_202 : decode cL_law 202 = .ok (.aload_n 0, 1) := by decide +kernel
theorem dL_law_203 : decode cL_law 203 = .ok (.iload 4, 2) := by decide +kernel
theorem dL_law_205 : decode cL_law 205 = .ok (.iconst 2, 1) := by decide +kernel
theorem dL_law_206 : decode cL_law 206 = .ok (.iadd, 1) := by decide +kernel
theorem dL_law_207 : decode cL_law 207 = .ok (.iaload, 1) := by decide +kernel
theorem dL_law_208 : decode cL_law 208 = .ok (.invokevirtual 73, 3) := by decide +kernel
theorem dL_law_211 : decode cL_law 211 = .ok (.istore 6, 2) := by decide +kernel
theorem dL_law_213 : decode cL_law 213 = .ok (.aload_n 2, 1) := by decide +kernel
theorem dL_law_214 : decode cL_law 214 = .ok (.invokevirtual 67, 3) := by decide +kernel
theorem dL_law_217 : decode cL_law 217 = .ok (.iload 5, 2) := by decide +kernel
theorem dL_law_219 : decode cL_law 219 = .ok (.if_icmp .eq 5, 3) := by decide +kernel
theorem dL_law_222 : decode cL_law 222 = .ok (.iconst 0, 1) := by decide +kernel
theorem dL_law_223 : decode cL_law 223 = .ok (.ireturn, 1) := by decide +kernel
theorem dL_law_224 : decode cL_law 224 = .ok (.iload 5, 2) := by decide +kernel
theorem dL_law_226 : decode cL_law 226 = .ok (.ifCond .ne 15, 3) := by decide +kernel
theorem dL_law_229 : decode cL_law 229 = .ok (.aload_n 3, 1) := by decide +kernel
theorem dL_law_230 : decode cL_law 230 = .ok (.iconst 0, 1) := by decide +kernel
theorem dL_law_231 : decode cL_law 231 = .ok (.laload, 1) := by decide +kernel
theorem dL_law_232 : decode cL_law 232 = .ok (.iload 6, 2) := by decide +kernel
theorem dL_law_234 : decode cL_law 234 = .ok (.i2l, 1) := by decide +kernel
theorem dL_law_235 : decode cL_law 235 = .ok (.lcmp, 1) := by decide +kernel
theorem dL_law_236 : decode cL_law 236 = .ok (.ifCond .eq 5, 3) := by decide +kernel
theorem dL_law_239 : decode cL_law 239 = .ok (.iconst 0, 1) := by decide +kernel
theorem dL_law_240 : decode cL_law 240 = .ok (.ireturn, 1) := by decide +kernel
theorem dL_law_241 : decode cL_law 241 = .ok (.goto 737, 3) := by decide +kernel
theorem dL_law_244 : decode cL_law 244 = .ok (.aload_n 1, 1) := by decide +kernel
theorem dL_law_245 : decode cL_law 245 = .ok (.aload_n 0, 1) := by decide +kernel
theorem dL_law_246 : decode cL_law 246 = .ok (.iload 4, 2) := by decide +kernel
theorem dL_law_248 : decode cL_law 248 = .ok (.iconst 1, 1) := by decide +kernel
theorem dL_law_249 : decode cL_law 249 = .ok (.iadd, 1) := by decide +kernel
theorem dL_law_250 : decode cL_law 250 = .ok (.iaload, 1) := by decide +kernel
theorem dL_law_251 : decode cL_law 251 = .ok (.aload_n 0, 1) := by decide +kernel
theorem dL_law_252 : decode cL_law 252 = .ok (.iload 4, 2) := by decide +kernel
theorem dL_law_254 : decode cL_law 254 = .ok (.iconst 2, 1) := by decide +kernel
theorem dL_law_255 : decode cL_law 255 = .ok (.iadd, 1) := by decide +kernel
theorem dL_law_256 : decode cL_law 256 = .ok (.iaload, 1) := by decide +kernel
theorem dL_law_257 : decode cL_law 257 = .ok (.aload_n 0, 1) := by decide +kernel
theorem dL_law_258 : decode cL_law 258 = .ok (.iload 4, 2) := by decide +kernel
theorem dL_law_260 : decode cL_law 260 = .ok (.iconst 3, 1) := by decide +kernel
theorem dL_law_261 : decode cL_law 261 = .ok (.iadd, 1) := by decide +kernel
theorem dL_law_262 : decode cL_law 262 = .ok (.iaload, 1) := by decide +kernel
theorem dL_law_263 : decode cL_law 263 = .ok (.aload_n 3, 1) := by decide +kernel
theorem dL_law_264 : decode cL_law 264 = .ok (.invokestatic 74, 3) := by decide +kernel
theorem dL_law_267 : decode cL_law 267 = .ok (.istore 5, 2) := by decide +kernel
theorem dL_law_269 : decode cL_law 269 = .ok (.aload_n 2, 1) := by decide +kernel
theorem dL_law_270 : decode cL_law 270 = .ok (.aload_n 0, 1) := by decide +kernel
theorem dL_law_271 : decode cL_law 271 = .ok (.iload 4, 2) := by decide +kernel
theorem dL_law_273 : decode cL_law 273 = .ok (.iconst 1, 1) := by decide +kernel
theorem dL_law_274 : decode cL_law 274 = .ok (.iadd, 1) := by decide +kernel
theorem dL_law_275 : decode cL_law 275 = .ok (.iaload, 1) := by decide +kernel
theorem dL_law_276 : decode cL_law 276 = .ok (.aload_n 0, 1) := by decide +kernel
theorem dL_law_277 : decode cL_law 277 = .ok (.iload 4, 2) := by decide +kernel
theorem dL_law_279 : decode cL_law 279 = .ok (.iconst 2, 1) := by decide +kernel
theorem dL_law_280 : decode cL_law 280 = .ok (.iadd, 1) := by decide +kernel
theorem dL_law_281 : decode cL_law 281 = .ok (.iaload, 1) := by decide +kernel
theorem dL_law_282 : decode cL_law 282 = .ok (.aload_n 0, 1) := by decide +kernel
theorem dL_law_283 : decode cL_law 283 = .ok (.iload 4, 2) := by decide +kernel
theorem dL_law_285 : decode cL_law 285 = .ok (.iconst 3, 1) := by decide +kernel
theorem dL_law_286 : decode cL_law 286 = .ok (.iadd, 1) := by decide +kernel
theorem dL_law_287 : decode cL_law 287 = .ok (.iaload, 1) := by decide +kernel
theorem dL_law_288 : decode cL_law 288 = .ok (.invokevirtual 77, 3) := by decide +kernel
theorem dL_law_291 : decode cL_law 291 = .ok (.istore 6, 2) := by decide +kernel
theorem dL_law_293 : decode cL_law 293 = .ok (.aload_n 2, 1) := by decide +kernel
theorem dL_law_294 : decode cL_law 294 = .ok (.invokevirtual 67, 3) := by decide +kernel
theorem dL_law_297 : decode cL_law 297 = .ok (.iload 5, 2) := by decide +kernel
theorem dL_law_299 : decode cL_law 299 = .ok (.if_icmp .eq 5, 3) := by decide +kernel
theorem dL_law_302 : decode cL_law 302 = .ok (.iconst 0, 1) := by decide +kernel
theorem dL_law_303 : decode cL_law 303 = .ok (.ireturn, 1) := by decide +kernel
theorem dL_law_304 : decode cL_law 304 = .ok (.iload 5, 2) := by decide +kernel
theorem dL_law_306 : decode cL_law 306 = .ok (.ifCond .ne 15, 3) := by decide +kernel
theorem dL_law_309 : decode cL_law 309 = .ok (.aload_n 3, 1) := by decide +kernel
theorem dL_law_310 : decode cL_law 310 = .ok (.iconst 0, 1) := by decide +kernel
theorem dL_law_311 : decode cL_law 311 = .ok (.laload, 1) := by decide +kernel
theorem dL_law_312 : decode cL_law 312 = .ok (.iload 6, 2) := by decide +kernel
theorem dL_law_314 : decode cL_law 314 = .ok (.i2l, 1) := by decide +kernel
theorem dL_law_315 : decode cL_law 315 = .ok (.lcmp, 1) := by decide +kernel
theorem dL_law_316 : decode cL_law 316 = .ok (.ifCond .eq 5, 3) := by decide +kernel
theorem dL_law_319 : decode cL_law 319 = .ok (.iconst 0, 1) := by decide +kernel
theorem dL_law_320 : decode cL_law 320 = .ok (.ireturn, 1) := by decide +kernel
theorem dL_law_321 : decode cL_law 321 = .ok (.goto 657, 3) := by decide +kernel
theorem dL_law_324 : decode cL_law 324 = .ok (.aload_n 1, 1) := by decide +kernel
theorem dL_law_325 : decode cL_law 325 = .ok (.aload_n 0, 1) := by decide +kernel
theorem dL_law_326 : decode cL_law 326 = .ok (.iload 4, 2) := by decide +kernel
theorem dL_law_328 : decode cL_law 328 = .ok (.iconst 1, 1) := by decide +kernel
theorem dL_law_329 : decode cL_law 329 = .ok (.iadd, 1) := by decide +kernel
theorem dL_law_330 : decode cL_law 330 = .ok (.iaload, 1) := by decide +kernel
theorem dL_law_331 : decode cL_law 331 = .ok (.aload_n 0, 1) := by decide +kernel
theorem dL_law_332 : decode cL_law 332 = .ok (.iload 4, 2) := by decide +kernel
theorem dL_law_334 : decode cL_law 334 = .ok (.iconst 2, 1) := by decide +kernel
theorem dL_law_335 : decode cL_law 335 = .ok (.iadd, 1) := by decide +kernel
theorem dL_law_336 : decode cL_law 336 = .ok (.iaload, 1) := by decide +kernel
theorem dL_law_337 : decode cL_law 337 = .ok (.aload_n 3, 1) := by decide +kernel
theorem dL_law_338 : decode cL_law 338 = .ok (.invokestatic 78, 3) := by decide +kernel
theorem dL_law_341 : decode cL_law 341 = .ok (.istore 5, 2) := by decide +kernel
theorem dL_law_343 : decode cL_law 343 = .ok (.aload_n 2, 1) := by decide +kernel
theorem dL_law_344 : decode cL_law 344 = .ok (.aload_n 0, 1) := by decide +kernel
theorem dL_law_345 : decode cL_law 345 = .ok (.iload 4, 2) := by decide +kernel
theorem dL_law_347 : decode cL_law 347 = .ok (.iconst 1, 1) := by decide +kernel
theorem dL_law_348 : decode cL_law 348 = .ok (.iadd, 1) := by decide +kernel
theorem dL_law_349 : decode cL_law 349 = .ok (.iaload, 1) := by decide +kernel
theorem dL_law_350 : decode cL_law 350 = .ok (.aload_n 0, 1) := by decide +kernel
theorem dL_law_351 : decode cL_law 351 = .ok (.iload 4, 2) := by decide +kernel
theorem dL_law_353 : decode cL_law 353 = .ok (.iconst 2, 1) := by decide +kernel
theorem dL_law_354 : decode cL_law 354 = .ok (.iadd, 1) := by decide +kernel
theorem dL_law_355 : decode cL_law 355 = .ok (.iaload, 1) := by decide +kernel
theorem dL_law_356 : decode cL_law 356 = .ok (.invokevirtual 80, 3) := by decide +kernel
theorem dL_law_359 : decode cL_law 359 = .ok (.istore 6, 2) := by decide +kernel
theorem dL_law_361 : decode cL_law 361 = .ok (.aload_n 2, 1) := by decide +kernel
theorem dL_law_362 : decode cL_law 362 = .ok (.invokevirtual 67, 3) := by decide +kernel
theorem dL_law_365 : decode cL_law 365 = .ok (.iload 5, 2) := by decide +kernel
theorem dL_law_367 : decode cL_law 367 = .ok (.if_icmp .eq 5, 3) := by decide +kernel
theorem dL_law_370 : decode cL_law 370 = .ok (.iconst 0, 1) := by decide +kernel
theorem dL_law_371 : decode cL_law 371 = .ok (.ireturn, 1) := by decide +kernel
theorem dL_law_372 : decode cL_law 372 = .ok (.iload 5, 2) := by decide +kernel
theorem dL_law_374 : decode cL_law 374 = .ok (.ifCond .ne 15, 3) := by decide +kernel
theorem dL_law_377 : decode cL_law 377 = .ok (.aload_n 3, 1) := by decide +kernel
theorem dL_law_378 : decode cL_law 378 = .ok (.iconst 0, 1) := by decide +kernel
theorem dL_law_379 : decode cL_law 379 = .ok (.laload, 1) := by decide +kernel
theorem dL_law_380 : decode cL_law 380 = .ok (.iload 6, 2) := by decide +kernel
theorem dL_law_382 : decode cL_law 382 = .ok (.i2l, 1) := by decide +kernel
theorem dL_law_383 : decode cL_law 383 = .ok (.lcmp, 1) := by decide +kernel
theorem dL_law_384 : decode cL_law 384 = .ok (.ifCond .eq 5, 3) := by decide +kernel
theorem dL_law_387 : decode cL_law 387 = .ok (.iconst 0, 1) := by decide +kernel
theorem dL_law_388 : decode cL_law 388 = .ok (.ireturn, 1) := by decide +kernel
theorem dL_law_389 : decode cL_law 389 = .ok (.goto 589, 3) := by decide +kernel
theorem dL_law_392 : decode cL_law 392 = .ok (.aload_n 1, 1) := by decide +kernel
theorem dL_law_393 : decode cL_law 393 = .ok (.invokevirtual 81, 3) := by decide +kernel
theorem dL_law_396 : decode cL_law 396 = .ok (.aload_n 2, 1) := by decide +kernel
theorem dL_law_397 : decode cL_law 397 = .ok (.invokevirtual 84, 3) := by decide +kernel
theorem dL_law_400 : decode cL_law 400 = .ok (.if_icmp .eq 578, 3) := by decide +kernel
theorem dL_law_403 : decode cL_law 403 = .ok (.iconst 0, 1) := by decide +kernel
theorem dL_law_404 : decode cL_law 404 = .ok (.ireturn, 1) := by decide +kernel
theorem dL_law_405 : decode cL_law 405 = .ok (.aload_n 1, 1) := by decide +kernel
theorem dL_law_406 : decode cL_law 406 = .ok (.aload_n 0, 1) := by decide +kernel
theorem dL_law_407 : decode cL_law 407 = .ok (.iload 4, 2) := by decide +kernel
theorem dL_law_409 : decode cL_law 409 = .ok (.iconst 1, 1) := by decide +kernel
theorem dL_law_410 : decode cL_law 410 = .ok (.iadd, 1) := by decide +kernel
theorem dL_law_411 : decode cL_law 411 = .ok (.iaload, 1) := by decide +kernel
theorem dL_law_412 : decode cL_law 412 = .ok (.aload_n 0, 1) := by decide +kernel
theorem dL_law_413 : decode cL_law 413 = .ok (.iload 4, 2) := by decide +kernel
theorem dL_law_415 : decode cL_law 415 = .ok (.iconst 2, 1) := by decide +kernel
theorem dL_law_416 : decode cL_law 416 = .ok (.iadd, 1) := by decide +kernel
theorem dL_law_417 : decode cL_law 417 = .ok (.iaload, 1) := by decide +kernel
theorem dL_law_418 : decode cL_law 418 = .ok (.aload_n 3, 1) := by decide +kernel
theorem dL_law_419 : decode cL_law 419 = .ok (.invokestatic 85, 3) := by decide +kernel
theorem dL_law_422 : decode cL_law 422 = .ok (.istore 5, 2) := by decide +kernel
theorem dL_law_424 : decode cL_law 424 = .ok (.aload_n 2, 1) := by decide +kernel
theorem dL_law_425 : decode cL_law 425 = .ok (.aload_n 0, 1) := by decide +kernel
theorem dL_law_426 : decode cL_law 426 = .ok (.iload 4, 2) := by decide +kernel
theorem dL_law_428 : decode cL_law 428 = .ok (.iconst 1, 1) := by decide +kernel
theorem dL_law_429 : decode cL_law 429 = .ok (.iadd, 1) := by decide +kernel
theorem dL_law_430 : decode cL_law 430 = .ok (.iaload, 1) := by decide +kernel
theorem dL_law_431 : decode cL_law 431 = .ok (.aload_n 0, 1) := by decide +kernel
theorem dL_law_432 : decode cL_law 432 = .ok (.iload 4, 2) := by decide +kernel
theorem dL_law_434 : decode cL_law 434 = .ok (.iconst 2, 1) := by decide +kernel
theorem dL_law_435 : decode cL_law 435 = .ok (.iadd, 1) := by decide +kernel
theorem dL_law_436 : decode cL_law 436 = .ok (.iaload, 1) := by decide +kernel
theorem dL_law_437 : decode cL_law 437 = .ok (.invokevirtual 87, 3) := by decide +kernel
theorem dL_law_440 : decode cL_law 440 = .ok (.istore 6, 2) := by decide +kernel
theorem dL_law_442 : decode cL_law 442 = .ok (.aload_n 2, 1) := by decide +kernel
theorem dL_law_443 : decode cL_law 443 = .ok (.invokevirtual 67, 3) := by decide +kernel
theorem dL_law_446 : decode cL_law 446 = .ok (.iload 5, 2) := by decide +kernel
theorem dL_law_448 : decode cL_law 448 = .ok (.if_icmp .eq 5, 3) := by decide +kernel
theorem dL_law_451 : decode cL_law 451 = .ok (.iconst 0, 1) := by decide +kernel
theorem dL_law_452 : decode cL_law 452 = .ok (.ireturn, 1) := by decide +kernel
theorem dL_law_453 : decode cL_law 453 = .ok (.iload 5, 2) := by decide +kernel
theorem dL_law_455 : decode cL_law 455 = .ok (.ifCond .ne 15, 3) := by decide +kernel
theorem dL_law_458 : decode cL_law 458 = .ok (.aload_n 3, 1) := by decide +kernel
theorem dL_law_459 : decode cL_law 459 = .ok (.iconst 0, 1) := by decide +kernel
theorem dL_law_460 : decode cL_law 460 = .ok (.laload, 1) := by decide +kernel
theorem dL_law_461 : decode cL_law 461 = .ok (.iload 6, 2) := by decide +kernel
theorem dL_law_463 : decode cL_law 463 = .ok (.i2l, 1) := by decide +kernel
theorem dL_law_464 : decode cL_law 464 = .ok (.lcmp, 1) := by decide +kernel
theorem dL_law_465 : decode cL_law 465 = .ok (.ifCond .eq 5, 3) := by decide +kernel
theorem dL_law_468 : decode cL_law 468 = .ok (.iconst 0, 1) := by decide +kernel
theorem dL_law_469 : decode cL_law 469 = .ok (.ireturn, 1) := by decide +kernel
theorem dL_law_470 : decode cL_law 470 = .ok (.goto 508, 3) := by decide +kernel
theorem dL_law_473 : decode cL_law 473 = .ok (.aload_n 1, 1) := by decide +kernel
theorem dL_law_474 : decode cL_law 474 = .ok (.aload_n 0, 1) := by decide +kernel
theorem dL_law_475 : decode cL_law 475 = .ok (.iload 4, 2) := by decide +kernel
theorem dL_law_477 : decode cL_law 477 = .ok (.iconst 1, 1) := by decide +kernel
theorem dL_law_478 : decode cL_law 478 = .ok (.iadd, 1) := by decide +kernel
theorem dL_law_479 : decode cL_law 479 = .ok (.iaload, 1) := by decide +kernel
theorem dL_law_480 : decode cL_law 480 = .ok (.aload_n 0, 1) := by decide +kernel
theorem dL_law_481 : decode cL_law 481 = .ok (.iload 4, 2) := by decide +kernel
theorem dL_law_483 : decode cL_law 483 = .ok (.iconst 2, 1) := by decide +kernel
theorem dL_law_484 : decode cL_law 484 = .ok (.iadd, 1) := by decide +kernel
theorem dL_law_485 : decode cL_law 485 = .ok (.iaload, 1) := by decide +kernel
theorem dL_law_486 : decode cL_law 486 = .ok (.aload_n 3, 1) := by decide +kernel
theorem dL_law_487 : decode cL_law 487 = .ok (.invokestatic 88, 3) := by decide +kernel
theorem dL_law_490 : decode cL_law 490 = .ok (.istore 5, 2) := by decide +kernel
theorem dL_law_492 : decode cL_law 492 = .ok (.aload_n 2, 1) := by decide +kernel
theorem dL_law_493 : decode cL_law 493 = .ok (.aload_n 0, 1) := by decide +kernel
theorem dL_law_494 : decode cL_law 494 = .ok (.iload 4, 2) := by decide +kernel
theorem dL_law_496 : decode cL_law 496 = .ok (.iconst 1, 1) := by decide +kernel
theorem dL_law_497 : decode cL_law 497 = .ok (.iadd, 1) := by decide +kernel
theorem dL_law_498 : decode cL_law 498 = .ok (.iaload, 1) := by decide +kernel
theorem dL_law_499 : decode cL_law 499 = .ok (.aload_n 0, 1) := by decide +kernel
theorem dL_law_500 : decode cL_law 500 = .ok (.iload 4, 2) := by decide +kernel
theorem dL_law_502 : decode cL_law 502 = .ok (.iconst 2, 1) := by decide +kernel
theorem dL_law_503 : decode cL_law 503 = .ok (.iadd, 1) := by decide +kernel
theorem dL_law_504 : decode cL_law 504 = .ok (.iaload, 1) := by decide +kernel
theorem dL_law_505 : decode cL_law 505 = .ok (.invokevirtual 90, 3) := by decide +kernel
theorem dL_law_508 : decode cL_law 508 = .ok (.istore 6, 2) := by decide +kernel
theorem dL_law_510 : decode cL_law 510 = .ok (.aload_n 2, 1) := by decide +kernel
theorem dL_law_511 : decode cL_law 511 = .ok (.invokevirtual 67, 3) := by decide +kernel
theorem dL_law_514 : decode cL_law 514 = .ok (.iload 5, 2) := by decide +kernel
theorem dL_law_516 : decode cL_law 516 = .ok (.if_icmp .eq 5, 3) := by decide +kernel
theorem dL_law_519 : decode cL_law 519 = .ok (.iconst 0, 1) := by decide +kernel
theorem dL_law_520 : decode cL_law 520 = .ok (.ireturn, 1) := by decide +kernel
theorem dL_law_521 : decode cL_law 521 = .ok (.iload 5, 2) := by decide +kernel
theorem dL_law_523 : decode cL_law 523 = .ok (.ifCond .ne 15, 3) := by decide +kernel
theorem dL_law_526 : decode cL_law 526 = .ok (.aload_n 3, 1) := by decide +kernel
theorem dL_law_527 : decode cL_law 527 = .ok (.iconst 0, 1) := by decide +kernel
theorem dL_law_528 : decode cL_law 528 = .ok (.laload, 1) := by decide +kernel
theorem dL_law_529 : decode cL_law 529 = .ok (.iload 6, 2) := by decide +kernel
theorem dL_law_531 : decode cL_law 531 = .ok (.i2l, 1) := by decide +kernel
theorem dL_law_532 : decode cL_law 532 = .ok (.lcmp, 1) := by decide +kernel
theorem dL_law_533 : decode cL_law 533 = .ok (.ifCond .eq 5, 3) := by decide +kernel
theorem dL_law_536 : decode cL_law 536 = .ok (.iconst 0, 1) := by decide +kernel
theorem dL_law_537 : decode cL_law 537 = .ok (.ireturn, 1) := by decide +kernel
theorem dL_law_538 : decode cL_law 538 = .ok (.goto 440, 3) := by decide +kernel
theorem dL_law_541 : decode cL_law 541 = .ok (.aload_n 1, 1) := by decide +kernel
theorem dL_law_542 : decode cL_law 542 = .ok (.invokevirtual 91, 3) := by decide +kernel
theorem dL_law_545 : decode cL_law 545 = .ok (.aload_n 2, 1) := by decide +kernel
theorem dL_law_546 : decode cL_law 546 = .ok (.invokevirtual 94, 3) := by decide +kernel
theorem dL_law_549 : decode cL_law 549 = .ok (.if_icmp .eq 429, 3) := by decide +kernel
theorem dL_law_552 : decode cL_law 552 = .ok (.iconst 0, 1) := by decide +kernel
theorem dL_law_553 : decode cL_law 553 = .ok (.ireturn, 1) := by decide +kernel
theorem dL_law_554 : decode cL_law 554 = .ok (.aload_n 1, 1) := by decide +kernel
theorem dL_law_555 : decode cL_law 555 = .ok (.aload_n 0, 1) := by decide +kernel
theorem dL_law_556 : decode cL_law 556 = .ok (.iload 4, 2) := by decide +kernel
theorem dL_law_558 : decode cL_law 558 = .ok (.iconst 1, 1) := by decide +kernel
theorem dL_law_559 : decode cL_law 559 = .ok (.iadd, 1) := by decide +kernel
theorem dL_law_560 : decode cL_law 560 = .ok (.iaload, 1) := by decide +kernel
theorem dL_law_561 : decode cL_law 561 = .ok (.aload_n 0, 1) := by decide +kernel
theorem dL_law_562 : decode cL_law 562 = .ok (.iload 4, 2) := by decide +kernel
theorem dL_law_564 : decode cL_law 564 = .ok (.iconst 2, 1) := by decide +kernel
theorem dL_law_565 : decode cL_law 565 = .ok (.iadd, 1) := by decide +kernel
theorem dL_law_566 : decode cL_law 566 = .ok (.iaload, 1) := by decide +kernel
theorem dL_law_567 : decode cL_law 567 = .ok (.aload_n 3, 1) := by decide +kernel
theorem dL_law_568 : decode cL_law 568 = .ok (.invokestatic 95, 3) := by decide +kernel
theorem dL_law_571 : decode cL_law 571 = .ok (.istore 5, 2) := by decide +kernel
theorem dL_law_573 : decode cL_law 573 = .ok (.aload_n 2, 1) := by decide +kernel
theorem dL_law_574 : decode cL_law 574 = .ok (.aload_n 0, 1) := by decide +kernel
theorem dL_law_575 : decode cL_law 575 = .ok (.iload 4, 2) := by decide +kernel
theorem dL_law_577 : decode cL_law 577 = .ok (.iconst 1, 1) := by decide +kernel
theorem dL_law_578 : decode cL_law 578 = .ok (.iadd, 1) := by decide +kernel
theorem dL_law_579 : decode cL_law 579 = .ok (.iaload, 1) := by decide +kernel
theorem dL_law_580 : decode cL_law 580 = .ok (.aload_n 0, 1) := by decide +kernel
theorem dL_law_581 : decode cL_law 581 = .ok (.iload 4, 2) := by decide +kernel
theorem dL_law_583 : decode cL_law 583 = .ok (.iconst 2, 1) := by decide +kernel
theorem dL_law_584 : decode cL_law 584 = .ok (.iadd, 1) := by decide +kernel
theorem dL_law_585 : decode cL_law 585 = .ok (.iaload, 1) := by decide +kernel
theorem dL_law_586 : decode cL_law 586 = .ok (.invokevirtual 97, 3) := by decide +kernel
theorem dL_law_589 : decode cL_law 589 = .ok (.istore 6, 2) := by decide +kernel
theorem dL_law_591 : decode cL_law 591 = .ok (.aload_n 2, 1) := by decide +kernel
theorem dL_law_592 : decode cL_law 592 = .ok (.invokevirtual 67, 3) := by decide +kernel
theorem dL_law_595 : decode cL_law 595 = .ok (.iload 5, 2) := by decide +kernel
theorem dL_law_597 : decode cL_law 597 = .ok (.if_icmp .eq 5, 3) := by decide +kernel
theorem dL_law_600 : decode cL_law 600 = .ok (.iconst 0, 1) := by decide +kernel
theorem dL_law_601 : decode cL_law 601 = .ok (.ireturn, 1) := by decide +kernel
theorem dL_law_602 : decode cL_law 602 = .ok (.iload 5, 2) := by decide +kernel
theorem dL_law_604 : decode cL_law 604 = .ok (.ifCond .ne 15, 3) := by decide +kernel
theorem dL_law_607 : decode cL_law 607 = .ok (.aload_n 3, 1) := by decide +kernel
theorem dL_law_608 : decode cL_law 608 = .ok (.iconst 0, 1) := by decide +kernel
theorem dL_law_609 : decode cL_law 609 = .ok (.laload, 1) := by decide +kernel
theorem dL_law_610 : decode cL_law 610 = .ok (.iload 6, 2) := by decide +kernel
theorem dL_law_612 : decode cL_law 612 = .ok (.i2l, 1) := by decide +kernel
theorem dL_law_613 : decode cL_law 613 = .ok (.lcmp, 1) := by decide +kernel
theorem dL_law_614 : decode cL_law 614 = .ok (.ifCond .eq 5, 3) := by decide +kernel
theorem dL_law_617 : decode cL_law 617 = .ok (.iconst 0, 1) := by decide +kernel
theorem dL_law_618 : decode cL_law 618 = .ok (.ireturn, 1) := by decide +kernel
theorem dL_law_619 : decode cL_law 619 = .ok (.goto 359, 3) := by decide +kernel
theorem dL_law_622 : decode cL_law 622 = .ok (.aload_n 1, 1) := by decide +kernel
theorem dL_law_623 : decode cL_law 623 = .ok (.aload_n 0, 1) := by decide +kernel
theorem dL_law_624 : decode cL_law 624 = .ok (.iload 4, 2) := by decide +kernel
theorem dL_law_626 : decode cL_law 626 = .ok (.iconst 1, 1) := by decide +kernel
theorem dL_law_627 : decode cL_law 627 = .ok (.iadd, 1) := by decide +kernel
theorem dL_law_628 : decode cL_law 628 = .ok (.iaload, 1) := by decide +kernel
theorem dL_law_629 : decode cL_law 629 = .ok (.aload_n 0, 1) := by decide +kernel
theorem dL_law_630 : decode cL_law 630 = .ok (.iload 4, 2) := by decide +kernel
theorem dL_law_632 : decode cL_law 632 = .ok (.iconst 2, 1) := by decide +kernel
theorem dL_law_633 : decode cL_law 633 = .ok (.iadd, 1) := by decide +kernel
theorem dL_law_634 : decode cL_law 634 = .ok (.iaload, 1) := by decide +kernel
theorem dL_law_635 : decode cL_law 635 = .ok (.aload_n 3, 1) := by decide +kernel
theorem dL_law_636 : decode cL_law 636 = .ok (.invokestatic 98, 3) := by decide +kernel
theorem dL_law_639 : decode cL_law 639 = .ok (.istore 5, 2) := by decide +kernel
theorem dL_law_641 : decode cL_law 641 = .ok (.aload_n 2, 1) := by decide +kernel
theorem dL_law_642 : decode cL_law 642 = .ok (.aload_n 0, 1) := by decide +kernel
theorem dL_law_643 : decode cL_law 643 = .ok (.iload 4, 2) := by decide +kernel
theorem dL_law_645 : decode cL_law 645 = .ok (.iconst 1, 1) := by decide +kernel
theorem dL_law_646 : decode cL_law 646 = .ok (.iadd, 1) := by decide +kernel
theorem dL_law_647 : decode cL_law 647 = .ok (.iaload, 1) := by decide +kernel
theorem dL_law_648 : decode cL_law 648 = .ok (.aload_n 0, 1) := by decide +kernel
theorem dL_law_649 : decode cL_law 649 = .ok (.iload 4, 2) := by decide +kernel
theorem dL_law_651 : decode cL_law 651 = .ok (.iconst 2, 1) := by decide +kernel
theorem dL_law_652 : decode cL_law 652 = .ok (.iadd, 1) := by decide +kernel
theorem dL_law_653 : decode cL_law 653 = .ok (.iaload, 1) := by decide +kernel
theorem dL_law_654 : decode cL_law 654 = .ok (.invokevirtual 100, 3) := by decide +kernel
theorem dL_law_657 : decode cL_law 657 = .ok (.istore 6, 2) := by decide +kernel
theorem dL_law_659 : decode cL_law 659 = .ok (.aload_n 2, 1) := by decide +kernel
theorem dL_law_660 : decode cL_law 660 = .ok (.invokevirtual 67, 3) := by decide +kernel
theorem dL_law_663 : decode cL_law 663 = .ok (.iload 5, 2) := by decide +kernel
theorem dL_law_665 : decode cL_law 665 = .ok (.if_icmp .eq 5, 3) := by decide +kernel
theorem dL_law_668 : decode cL_law 668 = .ok (.iconst 0, 1) := by decide +kernel
theorem dL_law_669 : decode cL_law 669 = .ok (.ireturn, 1) := by decide +kernel
theorem dL_law_670 : decode cL_law 670 = .ok (.iload 5, 2) := by decide +kernel
theorem dL_law_672 : decode cL_law 672 = .ok (.ifCond .ne 15, 3) := by decide +kernel
theorem dL_law_675 : decode cL_law 675 = .ok (.aload_n 3, 1) := by decide +kernel
theorem dL_law_676 : decode cL_law 676 = .ok (.iconst 0, 1) := by decide +kernel
theorem dL_law_677 : decode cL_law 677 = .ok (.laload, 1) := by decide +kernel
theorem dL_law_678 : decode cL_law 678 = .ok (.iload 6, 2) := by decide +kernel
theorem dL_law_680 : decode cL_law 680 = .ok (.i2l, 1) := by decide +kernel
theorem dL_law_681 : decode cL_law 681 = .ok (.lcmp, 1) := by decide +kernel
theorem dL_law_682 : decode cL_law 682 = .ok (.ifCond .eq 5, 3) := by decide +kernel
theorem dL_law_685 : decode cL_law 685 = .ok (.iconst 0, 1) := by decide +kernel
theorem dL_law_686 : decode cL_law 686 = .ok (.ireturn, 1) := by decide +kernel
theorem dL_law_687 : decode cL_law 687 = .ok (.goto 291, 3) := by decide +kernel
theorem dL_law_690 : decode cL_law 690 = .ok (.aload_n 1, 1) := by decide +kernel
theorem dL_law_691 : decode cL_law 691 = .ok (.aload_n 0, 1) := by decide +kernel
theorem dL_law_692 : decode cL_law 692 = .ok (.iload 4, 2) := by decide +kernel
theorem dL_law_694 : decode cL_law 694 = .ok (.iconst 1, 1) := by decide +kernel
theorem dL_law_695 : decode cL_law 695 = .ok (.iadd, 1) := by decide +kernel
theorem dL_law_696 : decode cL_law 696 = .ok (.iaload, 1) := by decide +kernel
theorem dL_law_697 : decode cL_law 697 = .ok (.aload_n 0, 1) := by decide +kernel
theorem dL_law_698 : decode cL_law 698 = .ok (.iload 4, 2) := by decide +kernel
theorem dL_law_700 : decode cL_law 700 = .ok (.iconst 2, 1) := by decide +kernel
theorem dL_law_701 : decode cL_law 701 = .ok (.iadd, 1) := by decide +kernel
theorem dL_law_702 : decode cL_law 702 = .ok (.iaload, 1) := by decide +kernel
theorem dL_law_703 : decode cL_law 703 = .ok (.ifCond .eq 7, 3) := by decide +kernel
theorem dL_law_706 : decode cL_law 706 = .ok (.iconst 1, 1) := by decide +kernel
theorem dL_law_707 : decode cL_law 707 = .ok (.goto 4, 3) := by decide +kernel
theorem dL_law_710 : decode cL_law 710 = .ok (.iconst 0, 1) := by decide +kernel
theorem dL_law_711 : decode cL_law 711 = .ok (.aload_n 3, 1) := by decide +kernel
theorem dL_law_712 : decode cL_law 712 = .ok (.invokestatic 101, 3) := by decide +kernel
theorem dL_law_715 : decode cL_law 715 = .ok (.istore 5, 2) := by decide +kernel
theorem dL_law_717 : decode cL_law 717 = .ok (.aload_n 2, 1) := by decide +kernel
theorem dL_law_718 : decode cL_law 718 = .ok (.aload_n 0, 1) := by decide +kernel
theorem dL_law_719 : decode cL_law 719 = .ok (.iload 4, 2) := by decide +kernel
theorem dL_law_721 : decode cL_law 721 = .ok (.iconst 1, 1) := by decide +kernel
theorem dL_law_722 : decode cL_law 722 = .ok (.iadd, 1) := by decide +kernel
theorem dL_law_723 : decode cL_law 723 = .ok (.iaload, 1) := by decide +kernel
theorem dL_law_724 : decode cL_law 724 = .ok (.aload_n 0, 1) := by decide +kernel
theorem dL_law_725 : decode cL_law 725 = .ok (.iload 4, 2) := by decide +kernel
theorem dL_law_727 : decode cL_law 727 = .ok (.iconst 2, 1) := by decide +kernel
theorem dL_law_728 : decode cL_law 728 = .ok (.iadd, 1) := by decide +kernel
theorem dL_law_729 : decode cL_law 729 = .ok (.iaload, 1) := by decide +kernel
theorem dL_law_730 : decode cL_law 730 = .ok (.ifCond .eq 7, 3) := by decide +kernel
theorem dL_law_733 : decode cL_law 733 = .ok (.iconst 1, 1) := by decide +kernel
theorem dL_law_734 : decode cL_law 734 = .ok (.goto 4, 3) := by decide +kernel
theorem dL_law_737 : decode cL_law 737 = .ok (.iconst 0, 1) := by decide +kernel
theorem dL_law_738 : decode cL_law 738 = .ok (.invokevirtual 104, 3) := by decide +kernel
theorem dL_law_741 : decode cL_law 741 = .ok (.istore 6, 2) := by decide +kernel
theorem dL_law_743 : decode cL_law 743 = .ok (.aload_n 2, 1) := by decide +kernel
theorem dL_law_744 : decode cL_law 744 = .ok (.invokevirtual 67, 3) := by decide +kernel
theorem dL_law_747 : decode cL_law 747 = .ok (.iload 5, 2) := by decide +kernel
theorem dL_law_749 : decode cL_law 749 = .ok (.if_icmp .eq 5, 3) := by decide +kernel
theorem dL_law_752 : decode cL_law 752 = .ok (.iconst 0, 1) := by decide +kernel
theorem dL_law_753 : decode cL_law 753 = .ok (.ireturn, 1) := by decide +kernel
theorem dL_law_754 : decode cL_law 754 = .ok (.iload 5, 2) := by decide +kernel
theorem dL_law_756 : decode cL_law 756 = .ok (.ifCond .ne 15, 3) := by decide +kernel
theorem dL_law_759 : decode cL_law 759 = .ok (.aload_n 3, 1) := by decide +kernel
theorem dL_law_760 : decode cL_law 760 = .ok (.iconst 0, 1) := by decide +kernel
theorem dL_law_761 : decode cL_law 761 = .ok (.laload, 1) := by decide +kernel
theorem dL_law_762 : decode cL_law 762 = .ok (.iload 6, 2) := by decide +kernel
theorem dL_law_764 : decode cL_law 764 = .ok (.i2l, 1) := by decide +kernel
theorem dL_law_765 : decode cL_law 765 = .ok (.lcmp, 1) := by decide +kernel
theorem dL_law_766 : decode cL_law 766 = .ok (.ifCond .eq 5, 3) := by decide +kernel
theorem dL_law_769 : decode cL_law 769 = .ok (.iconst 0, 1) := by decide +kernel
theorem dL_law_770 : decode cL_law 770 = .ok (.ireturn, 1) := by decide +kernel
theorem dL_law_771 : decode cL_law 771 = .ok (.goto 207, 3) := by decide +kernel
theorem dL_law_774 : decode cL_law 774 = .ok (.aload_n 1, 1) := by decide +kernel
theorem dL_law_775 : decode cL_law 775 = .ok (.aload_n 0, 1) := by decide +kernel
theorem dL_law_776 : decode cL_law 776 = .ok (.iload 4, 2) := by decide +kernel
theorem dL_law_778 : decode cL_law 778 = .ok (.iconst 1, 1) := by decide +kernel
theorem dL_law_779 : decode cL_law 779 = .ok (.iadd, 1) := by decide +kernel
theorem dL_law_780 : decode cL_law 780 = .ok (.iaload, 1) := by decide +kernel
theorem dL_law_781 : decode cL_law 781 = .ok (.aload_n 0, 1) := by decide +kernel
theorem dL_law_782 : decode cL_law 782 = .ok (.iload 4, 2) := by decide +kernel
theorem dL_law_784 : decode cL_law 784 = .ok (.iconst 2, 1) := by decide +kernel
theorem dL_law_785 : decode cL_law 785 = .ok (.iadd, 1) := by decide +kernel
theorem dL_law_786 : decode cL_law 786 = .ok (.iaload, 1) := by decide +kernel
theorem dL_law_787 : decode cL_law 787 = .ok (.aload_n 0, 1) := by decide +kernel
theorem dL_law_788 : decode cL_law 788 = .ok (.iload 4, 2) := by decide +kernel
theorem dL_law_790 : decode cL_law 790 = .ok (.iconst 3, 1) := by decide +kernel
theorem dL_law_791 : decode cL_law 791 = .ok (.iadd, 1) := by decide +kernel
theorem dL_law_792 : decode cL_law 792 = .ok (.iaload, 1) := by decide +kernel
theorem dL_law_793 : decode cL_law 793 = .ok (.aload_n 3, 1) := by decide +kernel
theorem dL_law_794 : decode cL_law 794 = .ok (.invokestatic 105, 3) := by decide +kernel
theorem dL_law_797 : decode cL_law 797 = .ok (.istore 5, 2) := by decide +kernel
theorem dL_law_799 : decode cL_law 799 = .ok (.aload_n 2, 1) := by decide +kernel
theorem dL_law_800 : decode cL_law 800 = .ok (.aload_n 0, 1) := by decide +kernel
theorem dL_law_801 : decode cL_law 801 = .ok (.iload 4, 2) := by decide +kernel
theorem dL_law_803 : decode cL_law 803 = .ok (.iconst 1, 1) := by decide +kernel
theorem dL_law_804 : decode cL_law 804 = .ok (.iadd, 1) := by decide +kernel
theorem dL_law_805 : decode cL_law 805 = .ok (.iaload, 1) := by decide +kernel
theorem dL_law_806 : decode cL_law 806 = .ok (.aload_n 0, 1) := by decide +kernel
theorem dL_law_807 : decode cL_law 807 = .ok (.iload 4, 2) := by decide +kernel
theorem dL_law_809 : decode cL_law 809 = .ok (.iconst 2, 1) := by decide +kernel
theorem dL_law_810 : decode cL_law 810 = .ok (.iadd, 1) := by decide +kernel
theorem dL_law_811 : decode cL_law 811 = .ok (.iaload, 1) := by decide +kernel
theorem dL_law_812 : decode cL_law 812 = .ok (.aload_n 0, 1) := by decide +kernel
theorem dL_law_813 : decode cL_law 813 = .ok (.iload 4, 2) := by decide +kernel
theorem dL_law_815 : decode cL_law 815 = .ok (.iconst 3, 1) := by decide +kernel
theorem dL_law_816 : decode cL_law 816 = .ok (.iadd, 1) := by decide +kernel
theorem dL_law_817 : decode cL_law 817 = .ok (.iaload, 1) := by decide +kernel
theorem dL_law_818 : decode cL_law 818 = .ok (.invokevirtual 107, 3) := by decide +kernel
theorem dL_law_821 : decode cL_law 821 = .ok (.istore 6, 2) := by decide +kernel
theorem dL_law_823 : decode cL_law 823 = .ok (.aload_n 2, 1) := by decide +kernel
theorem dL_law_824 : decode cL_law 824 = .ok (.invokevirtual 67, 3) := by decide +kernel
theorem dL_law_827 : decode cL_law 827 = .ok (.iload 5, 2) := by decide +kernel
theorem dL_law_829 : decode cL_law 829 = .ok (.if_icmp .eq 5, 3) := by decide +kernel
theorem dL_law_832 : decode cL_law 832 = .ok (.iconst 0, 1) := by decide +kernel
theorem dL_law_833 : decode cL_law 833 = .ok (.ireturn, 1) := by decide +kernel
theorem dL_law_834 : decode cL_law 834 = .ok (.iload 5, 2) := by decide +kernel
theorem dL_law_836 : decode cL_law 836 = .ok (.ifCond .ne 15, 3) := by decide +kernel
theorem dL_law_839 : decode cL_law 839 = .ok (.aload_n 3, 1) := by decide +kernel
theorem dL_law_840 : decode cL_law 840 = .ok (.iconst 0, 1) := by decide +kernel
theorem dL_law_841 : decode cL_law 841 = .ok (.laload, 1) := by decide +kernel
theorem dL_law_842 : decode cL_law 842 = .ok (.iload 6, 2) := by decide +kernel
theorem dL_law_844 : decode cL_law 844 = .ok (.i2l, 1) := by decide +kernel
theorem dL_law_845 : decode cL_law 845 = .ok (.lcmp, 1) := by decide +kernel
theorem dL_law_846 : decode cL_law 846 = .ok (.ifCond .eq 5, 3) := by decide +kernel
theorem dL_law_849 : decode cL_law 849 = .ok (.iconst 0, 1) := by decide +kernel
theorem dL_law_850 : decode cL_law 850 = .ok (.ireturn, 1) := by decide +kernel
theorem dL_law_851 : decode cL_law 851 = .ok (.goto 127, 3) := by decide +kernel
theorem dL_law_854 : decode cL_law 854 = .ok (.aload_n 1, 1) := by decide +kernel
theorem dL_law_855 : decode cL_law 855 = .ok (.aload_n 0, 1) := by decide +kernel
theorem dL_law_856 : decode cL_law 856 = .ok (.iload 4, 2) := by decide +kernel
theorem dL_law_858 : decode cL_law 858 = .ok (.iconst 1, 1) := by decide +kernel
theorem dL_law_859 : decode cL_law 859 = .ok (.iadd, 1) := by decide +kernel
theorem dL_law_860 : decode cL_law 860 = .ok (.iaload, 1) := by decide +kernel
theorem dL_law_861 : decode cL_law 861 = .ok (.aload_n 0, 1) := by decide +kernel
theorem dL_law_862 : decode cL_law 862 = .ok (.iload 4, 2) := by decide +kernel
theorem dL_law_864 : decode cL_law 864 = .ok (.iconst 2, 1) := by decide +kernel
theorem dL_law_865 : decode cL_law 865 = .ok (.iadd, 1) := by decide +kernel
theorem dL_law_866 : decode cL_law 866 = .ok (.iaload, 1) := by decide +kernel
theorem dL_law_867 : decode cL_law 867 = .ok (.aload_n 3, 1) := by decide +kernel
theorem dL_law_868 : decode cL_law 868 = .ok (.invokestatic 108, 3) := by decide +kernel
theorem dL_law_871 : decode cL_law 871 = .ok (.istore 5, 2) := by decide +kernel
theorem dL_law_873 : decode cL_law 873 = .ok (.aload_n 2, 1) := by decide +kernel
theorem dL_law_874 : decode cL_law 874 = .ok (.aload_n 0, 1) := by decide +kernel
theorem dL_law_875 : decode cL_law 875 = .ok (.iload 4, 2) := by decide +kernel
theorem dL_law_877 : decode cL_law 877 = .ok (.iconst 1, 1) := by decide +kernel
theorem dL_law_878 : decode cL_law 878 = .ok (.iadd, 1) := by decide +kernel
theorem dL_law_879 : decode cL_law 879 = .ok (.iaload, 1) := by decide +kernel
theorem dL_law_880 : decode cL_law 880 = .ok (.aload_n 0, 1) := by decide +kernel
theorem dL_law_881 : decode cL_law 881 = .ok (.iload 4, 2) := by decide +kernel
theorem dL_law_883 : decode cL_law 883 = .ok (.iconst 2, 1) := by decide +kernel
theorem dL_law_884 : decode cL_law 884 = .ok (.iadd, 1) := by decide +kernel
theorem dL_law_885 : decode cL_law 885 = .ok (.iaload, 1) := by decide +kernel
theorem dL_law_886 : decode cL_law 886 = .ok (.invokevirtual 110, 3) := by decide +kernel
theorem dL_law_889 : decode cL_law 889 = .ok (.istore 6, 2) := by decide +kernel
theorem dL_law_891 : decode cL_law 891 = .ok (.aload_n 2, 1) := by decide +kernel
theorem dL_law_892 : decode cL_law 892 = .ok (.invokevirtual 67, 3) := by decide +kernel
theorem dL_law_895 : decode cL_law 895 = .ok (.iload 5, 2) := by decide +kernel
theorem dL_law_897 : decode cL_law 897 = .ok (.if_icmp .eq 5, 3) := by decide +kernel
theorem dL_law_900 : decode cL_law 900 = .ok (.iconst 0, 1) := by decide +kernel
theorem dL_law_901 : decode cL_law 901 = .ok (.ireturn, 1) := by decide +kernel
theorem dL_law_902 : decode cL_law 902 = .ok (.iload 5, 2) := by decide +kernel
theorem dL_law_904 : decode cL_law 904 = .ok (.ifCond .ne 15, 3) := by decide +kernel
theorem dL_law_907 : decode cL_law 907 = .ok (.aload_n 3, 1) := by decide +kernel
theorem dL_law_908 : decode cL_law 908 = .ok (.iconst 0, 1) := by decide +kernel
theorem dL_law_909 : decode cL_law 909 = .ok (.laload, 1) := by decide +kernel
theorem dL_law_910 : decode cL_law 910 = .ok (.iload 6, 2) := by decide +kernel
theorem dL_law_912 : decode cL_law 912 = .ok (.i2l, 1) := by decide +kernel
theorem dL_law_913 : decode cL_law 913 = .ok (.lcmp, 1) := by decide +kernel
theorem dL_law_914 : decode cL_law 914 = .ok (.ifCond .eq 5, 3) := by decide +kernel
theorem dL_law_917 : decode cL_law 917 = .ok (.iconst 0, 1) := by decide +kernel
theorem dL_law_918 : decode cL_law 918 = .ok (.ireturn, 1) := by decide +kernel
theorem dL_law_919 : decode cL_law 919 = .ok (.goto 59, 3) := by decide +kernel
theorem dL_law_922 : decode cL_law 922 = .ok (.aload_n 1, 1) := by decide +kernel
theorem dL_law_923 : decode cL_law 923 = .ok (.aload_n 0, 1) := by decide +kernel
theorem dL_law_924 : decode cL_law 924 = .ok (.iload 4, 2) := by decide +kernel
theorem dL_law_926 : decode cL_law 926 = .ok (.iconst 1, 1) := by decide +kernel
theorem dL_law_927 : decode cL_law 927 = .ok (.iadd, 1) := by decide +kernel
theorem dL_law_928 : decode cL_law 928 = .ok (.iaload, 1) := by decide +kernel
theorem dL_law_929 : decode cL_law 929 = .ok (.aload_n 3, 1) := by decide +kernel
theorem dL_law_930 : decode cL_law 930 = .ok (.invokestatic 111, 3) := by decide +kernel
theorem dL_law_933 : decode cL_law 933 = .ok (.istore 5, 2) := by decide +kernel
theorem dL_law_935 : decode cL_law 935 = .ok (.aload_n 2, 1) := by decide +kernel
theorem dL_law_936 : decode cL_law 936 = .ok (.aload_n 0, 1) := by decide +kernel
theorem dL_law_937 : decode cL_law 937 = .ok (.iload 4, 2) := by decide +kernel
theorem dL_law_939 : decode cL_law 939 = .ok (.iconst 1, 1) := by decide +kernel
theorem dL_law_940 : decode cL_law 940 = .ok (.iadd, 1) := by decide +kernel
theorem dL_law_941 : decode cL_law 941 = .ok (.iaload, 1) := by decide +kernel
theorem dL_law_942 : decode cL_law 942 = .ok (.invokevirtual 114, 3) := by decide +kernel
theorem dL_law_945 : decode cL_law 945 = .ok (.istore 6, 2) := by decide +kernel
theorem dL_law_947 : decode cL_law 947 = .ok (.aload_n 2, 1) := by decide +kernel
theorem dL_law_948 : decode cL_law 948 = .ok (.invokevirtual 67, 3) := by decide +kernel
theorem dL_law_951 : decode cL_law 951 = .ok (.iload 5, 2) := by decide +kernel
theorem dL_law_953 : decode cL_law 953 = .ok (.if_icmp .eq 5, 3) := by decide +kernel
theorem dL_law_956 : decode cL_law 956 = .ok (.iconst 0, 1) := by decide +kernel
theorem dL_law_957 : decode cL_law 957 = .ok (.ireturn, 1) := by decide +kernel
theorem dL_law_958 : decode cL_law 958 = .ok (.iload 5, 2) := by decide +kernel
theorem dL_law_960 : decode cL_law 960 = .ok (.ifCond .ne 15, 3) := by decide +kernel
theorem dL_law_963 : decode cL_law 963 = .ok (.aload_n 3, 1) := by decide +kernel
theorem dL_law_964 : decode cL_law 964 = .ok (.iconst 0, 1) := by decide +kernel
theorem dL_law_965 : decode cL_law 965 = .ok (.laload, 1) := by decide +kernel
theorem dL_law_966 : decode cL_law 966 = .ok (.iload 6, 2) := by decide +kernel
theorem dL_law_968 : decode cL_law 968 = .ok (.i2l, 1) := by decide +kernel
theorem dL_law_969 : decode cL_law 969 = .ok (.lcmp, 1) := by decide +kernel
theorem dL_law_970 : decode cL_law 970 = .ok (.ifCond .eq 5, 3) := by decide +kernel
theorem dL_law_973 : decode cL_law 973 = .ok (.iconst 0, 1) := by decide +kernel
theorem dL_law_974 : decode cL_law 974 = .ok (.ireturn, 1) := by decide +kernel
theorem dL_law_975 : decode cL_law 975 = .ok (.goto 3, 3) := by decide +kernel
theorem dL_law_978 : decode cL_law 978 = .ok (.iinc 4 4, 3) := by decide +kernel
theorem dL_law_981 : decode cL_law 981 = .ok (.goto (-958), 3) := by decide +kernel
theorem dL_law_984 : decode cL_law 984 = .ok (.iconst 1, 1) := by decide +kernel
theorem dL_law_985 : decode cL_law 985 = .ok (.ireturn, 1) := by decide +kernel
