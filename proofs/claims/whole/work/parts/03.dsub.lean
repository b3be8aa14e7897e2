theorem dX0_init_0 : decode cX0_init 0 = .ok (.aload_n 0, 1) := by decide +kernel
theorem dX0_init_1 : decode cX0_init 1 = .ok (.invokespecial 3, 3) := by decide +kernel
theorem dX0_init_4 : decode cX0_init 4 = .ok (.aload_n 0, 1) := by decide +kernel
theorem dX0_init_5 : decode cX0_init 5 = .ok (.sipush 760, 3) := by decide +kernel
theorem dX0_init_8 : decode cX0_init 8 = .ok (.newarray .int, 2) := by decide +kernel
theorem dX0_init_10 : decode cX0_init 10 = .ok (.putfield 11, 3) := by decide +kernel
theorem dX0_init_13 : decode cX0_init 13 = .ok (.aload_n 0, 1) := by decide +kernel
theorem dX0_init_14 : decode cX0_init 14 = .ok (.sipush 760, 3) := by decide +kernel
theorem dX0_init_17 : decode cX0_init 17 = .ok (.newarray .int, 2) := by decide +kernel
theorem dX0_init_19 : decode cX0_init 19 = .ok (.putfield 15, 3) := by decide +kernel
theorem dX0_init_22 : decode cX0_init 22 = .ok (.aload_n 0, 1) := by decide +kernel
theorem dX0_init_23 : decode cX0_init 23 = .ok (.sipush 760, 3) := by decide +kernel
theorem dX0_init_26 : decode cX0_init 26 = .ok (.newarray .int, 2) := by decide +kernel
theorem dX0_init_28 : decode cX0_init 28 = .ok (.putfield 18, 3) := by decide +kernel
theorem dX0_init_31 : decode cX0_init 31 = .ok (.aload_n 0, 1) := by decide +kernel
theorem dX0_init_32 : decode cX0_init 32 = .ok (.iconst 0, 1) := by decide +kernel
theorem dX0_init_33 : decode cX0_init 33 = .ok (.putfield 21, 3) := by decide +kernel
theorem dX0_init_36 : decode cX0_init 36 = .ok (.return_, 1) := by decide +kernel
theorem dX0_append_0 : decode cX0_append 0 = .ok (.aload_n 0, 1) := by decide +kernel
theorem dX0_append_1 : decode cX0_append 1 = .ok (.getfield 21, 3) := by decide +kernel
theorem dX0_append_4 : decode cX0_append 4 = .ok (.sipush 760, 3) := by decide +kernel
theorem dX0_append_7 : decode cX0_append 7 = .ok (.if_icmp .ge 43, 3) := by decide +kernel
theorem dX0_append_10 : decode cX0_append 10 = .ok (.aload_n 0, 1) := by decide +kernel
theorem dX0_append_11 : decode cX0_append 11 = .ok (.getfield 11, 3) := by decide +kernel
theorem dX0_append_14 : decode cX0_append 14 = .ok (.aload_n 0, 1) := by decide +kernel
theorem dX0_append_15 : decode cX0_append 15 = .ok (.getfield 21, 3) := by decide +kernel
theorem dX0_append_18 : decode cX0_append 18 = .ok (.iload_n 1, 1) := by decide +kernel
theorem dX0_append_19 : decode cX0_append 19 = .ok (.iastore, 1) := by decide +kernel
theorem dX0_append_20 : decode cX0_append 20 = .ok (.aload_n 0, 1) := by decide +kernel
theorem dX0_append_21 : decode cX0_append 21 = .ok (.getfield 15, 3) := by decide +kernel
theorem dX0_append_24 : decode cX0_append 24 = .ok (.aload_n 0, 1) := by decide +kernel
theorem dX0_append_25 : decode cX0_append 25 = .ok (.getfield 21, 3) := by decide +kernel
theorem dX0_append_28 : decode cX0_append 28 = .ok (.iload_n 2, 1) := by decide +kernel
theorem dX0_append_29 : decode cX0_append 29 = .ok (.iastore, 1) := by decide +kernel
theorem dX0_append_30 : decode cX0_append 30 = .ok (.aload_n 0, 1) := by decide +kernel
theorem dX0_append_31 : decode cX0_append 31 = .ok (.getfield 18, 3) := by decide +kernel
theorem dX0_append_34 : decode cX0_append 34 = .ok (.aload_n 0, 1) := by decide +kernel
theorem dX0_append_35 : decode cX0_append 35 = .ok (.getfield 21, 3) := by decide +kernel
theorem dX0_append_38 : decode cX0_append 38 = .ok (.iload_n 3, 1) := by decide +kernel
theorem dX0_append_39 : decode cX0_append 39 = .ok (.iastore, 1) := by decide +kernel
theorem dX0_append_40 : decode cX0_append 40 = .ok (.aload_n 0, 1) := by decide +kernel
theorem dX0_append_41 : decode cX0_append 41 = .ok (.dup, 1) := by decide +kernel
theorem dX0_append_42 : decode cX0_append 42 = .ok (.getfield 21, 3) := by decide +kernel
theorem dX0_append_45 : decode cX0_append 45 = .ok (.iconst 1, 1) := by decide +kernel
theorem dX0_append_46 : decode cX0_append 46 = .ok (.iadd, 1) := by decide +kernel
theorem dX0_append_47 : decode cX0_append 47 = .ok (.putfield 21, 3) := by decide +kernel
theorem dX0_append_50 : decode cX0_append 50 = .ok (.return_, 1) := by decide +kernel
theorem dX1_init_0 : decode cX1_init 0 = .ok (.aload_n 0, 1) := by decide +kernel
theorem dX1_init_1 : decode cX1_init 1 = .ok (.invokespecial 3, 3) := by decide +kernel
theorem dX1_init_4 : decode cX1_init 4 = .ok (.aload_n 0, 1) := by decide +kernel
theorem dX1_init_5 : decode cX1_init 5 = .ok (.sipush 480, 3) := by decide +kernel
theorem dX1_init_8 : decode cX1_init 8 = .ok (.newarray .int, 2) := by decide +kernel
theorem dX1_init_10 : decode cX1_init 10 = .ok (.putfield 11, 3) := by decide +kernel
theorem dX1_init_13 : decode cX1_init 13 = .ok (.aload_n 0, 1) := by decide +kernel
theorem dX1_init_14 : decode cX1_init 14 = .ok (.iconst 0, 1) := by decide +kernel
theorem dX1_init_15 : decode cX1_init 15 = .ok (.putfield 15, 3) := by decide +kernel
theorem dX1_init_18 : decode cX1_init 18 = .ok (.aload_n 0, 1) := by decide +kernel
theorem dX1_init_19 : decode cX1_init 19 = .ok (.iconst 0, 1) := by decide +kernel
theorem dX1_init_20 : decode cX1_init 20 = .ok (.putfield 19, 3) := by decide +kernel
theorem dX1_init_23 : decode cX1_init 23 = .ok (.aload_n 0, 1) := by decide +kernel
theorem dX1_init_24 : decode cX1_init 24 = .ok (.iconst 0, 1) := by decide +kernel
theorem dX1_init_25 : decode cX1_init 25 = .ok (.putfield 22, 3) := by decide +kernel
theorem dX1_init_28 : decode cX1_init 28 = .ok (.aload_n 0, 1) := by decide +kernel
theorem dX1_init_29 : decode cX1_init 29 = .ok (.iconst (-1), 1) := by decide +kernel
theorem dX1_init_30 : decode cX1_init 30 = .ok (.putfield 25, 3) := by decide +kernel
theorem dX1_init_33 : decode cX1_init 33 = .ok (.aload_n 0, 1) := by decide +kernel
theorem dX1_init_34 : decode cX1_init 34 = .ok (.iconst 0, 1) := by decide +kernel
theorem dX1_init_35 : decode cX1_init 35 = .ok (.putfield 28, 3) := by decide +kernel
theorem dX1_init_38 : decode cX1_init 38 = .ok (.return_, 1) := by decide +kernel
theorem dX1_clear_0 : decode cX1_clear 0 = .ok (.aload_n 0, 1) := by decide +kernel
theorem dX1_clear_1 : decode cX1_clear 1 = .ok (.getfield 11, 3) := by decide +kernel
theorem dX1_clear_4 : decode cX1_clear 4 = .ok (.iconst 0, 1) := by decide +kernel
theorem dX1_clear_5 : decode cX1_clear 5 = .ok (.invokestatic 32, 3) := by decide +kernel
theorem dX1_clear_8 : decode cX1_clear 8 = .ok (.aload_n 0, 1) := by decide +kernel
theorem dX1_clear_9 : decode cX1_clear 9 = .ok (.iconst 0, 1) := by decide +kernel
theorem dX1_clear_10 : decode cX1_clear 10 = .ok (.putfield 15, 3) := by decide +kernel
theorem dX1_clear_13 : decode cX1_clear 13 = .ok (.aload_n 0, 1) := by decide +kernel
theorem dX1_clear_14 : decode cX1_clear 14 = .ok (.iconst 0, 1) := by decide +kernel
theorem dX1_clear_15 : decode cX1_clear 15 = .ok (.putfield 19, 3) := by decide +kernel
theorem dX1_clear_18 : decode cX1_clear 18 = .ok (.aload_n 0, 1) := by decide +kernel
theorem dX1_clear_19 : decode cX1_clear 19 = .ok (.iconst (-1), 1) := by decide +kernel
theorem dX1_clear_20 : decode cX1_clear 20 = .ok (.putfield 25, 3) := by decide +kernel
theorem dX1_clear_23 : decode cX1_clear 23 = .ok (.aload_n 0, 1) := by decide +kernel
theorem dX1_clear_24 : decode cX1_clear 24 = .ok (.iconst 0, 1) := by decide +kernel
theorem dX1_clear_25 : decode cX1_clear 25 = .ok (.putfield 28, 3) := by decide +kernel
theorem dX1_clear_28 : decode cX1_clear 28 = .ok (.return_, 1) := by decide +kernel
theorem dX1_beginRow_0 : decode cX1_beginRow 0 = .ok (.aload_n 0, 1) := by decide +kernel
theorem dX1_beginRow_1 : decode cX1_beginRow 1 = .ok (.iconst 0, 1) := by decide +kernel
theorem dX1_beginRow_2 : decode cX1_beginRow 2 = .ok (.putfield 22, 3) := by decide +kernel
theorem dX1_beginRow_5 : decode cX1_beginRow 5 = .ok (.return_, 1) := by decide +kernel
theorem dX1_lay_0 : decode cX1_lay 0 = .ok (.aload_n 0, 1) := by decide +kernel
theorem dX1_lay_1 : decode cX1_lay 1 = .ok (.getfield 22, 3) := by decide +kernel
theorem dX1_lay_4 : decode cX1_lay 4 = .ok (.sipush 480, 3) := by decide +kernel
theorem dX1_lay_7 : decode cX1_lay 7 = .ok (.if_icmp .ge 32, 3) := by decide +kernel
theorem dX1_lay_10 : decode cX1_lay 10 = .ok (.aload_n 0, 1) := by decide +kernel
theorem dX1_lay_11 : decode cX1_lay 11 = .ok (.getfield 11, 3) := by decide +kernel
theorem dX1_lay_14 : decode cX1_lay 14 = .ok (.aload_n 0, 1) := by decide +kernel
theorem dX1_lay_15 : decode cX1_lay 15 = .ok (.getfield 22, 3) := by decide +kernel
theorem dX1_lay_18 : decode cX1_lay 18 = .ok (.iaload, 1) := by decide +kernel
theorem dX1_lay_19 : decode cX1_lay 19 = .ok (.aload_n 0, 1) := by decide +kernel
theorem dX1_lay_20 : decode cX1_lay 20 = .ok (.getfield 19, 3) := by decide +kernel
theorem dX1_lay_23 : decode cX1_lay 23 = .ok (.if_icmp .le 16, 3) := by decide +kernel
theorem dX1_lay_26 : decode cX1_lay 26 = .ok (.aload_n 0, 1) := by decide +kernel
theorem dX1_lay_27 : decode cX1_lay 27 = .ok (.dup, 1) := by decide +kernel
theorem dX1_lay_28 : decode cX1_lay 28 = .ok (.getfield 22, 3) := by decide +kernel
theorem dX1_lay_31 : decode cX1_lay 31 = .ok (.iconst 1, 1) := by decide +kernel
theorem dX1_lay_32 : decode cX1_lay 32 = .ok (.iadd, 1) := by decide +kernel
theorem dX1_lay_33 : decode cX1_lay 33 = .ok (.putfield 22, 3) := by decide +kernel
theorem dX1_lay_36 : decode cX1_lay 36 = .ok (.goto (-36), 3) := by decide +kernel
theorem dX1_lay_39 : decode cX1_lay 39 = .ok (.iconst 0, 1) := by decide +kernel
theorem dX1_lay_40 : decode cX1_lay 40 = .ok (.istore_n 3, 1) := by decide +kernel
theorem dX1_lay_41 : decode cX1_lay 41 = .ok (.iload_n 3, 1) := by decide +kernel
theorem dX1_lay_42 : decode cX1_lay 42 = .ok (.iload_n 2, 1) := by decide +kernel
theorem dX1_lay_43 : decode cX1_lay 43 = .ok (.if_icmp .ge 88, 3) := by decide +kernel
theorem dX1_lay_46 : decode cX1_lay 46 = .ok (.aload_n 0, 1) := by decide +kernel
theorem dX1_lay_47 : decode cX1_lay 47 = .ok (.getfield 22, 3) := by decide +kernel
theorem dX1_lay_50 : decode cX1_lay 50 = .ok (.sipush 480, 3) := by decide +kernel
theorem dX1_lay_53 : decode cX1_lay 53 = .ok (.if_icmp .ge 78, 3) := by decide +kernel
theorem dX1_lay_56 : decode cX1_lay 56 = .ok (.aload_n 0, 1) := by decide +kernel
theorem dX1_lay_57 : decode cX1_lay 57 = .ok (.aload_n 0, 1) := by decide +kernel
theorem dX1_lay_58 : decode cX1_lay 58 = .ok (.getfield 28, 3) := by decide +kernel
theorem dX1_lay_61 : decode cX1_lay 61 = .ok (.ifCond .ne 19, 3) := by decide +kernel
theorem dX1_lay_64 : decode cX1_lay 64 = .ok (.aload_n 0, 1) := by decide +kernel
theorem dX1_lay_65 : decode cX1_lay 65 = .ok (.getfield 11, 3) := by decide +kernel
theorem dX1_lay_68 : decode cX1_lay 68 = .ok (.aload_n 0, 1) := by decide +kernel
theorem dX1_lay_69 : decode cX1_lay 69 = .ok (.getfield 22, 3) := by decide +kernel
theorem dX1_lay_72 : decode cX1_lay 72 = .ok (.iaload, 1) := by decide +kernel
theorem dX1_lay_73 : decode cX1_lay 73 = .ok (.aload_n 0, 1) := by decide +kernel
theorem dX1_lay_74 : decode cX1_lay 74 = .ok (.getfield 19, 3) := by decide +kernel
theorem dX1_lay_77 : decode cX1_lay 77 = .ok (.if_icmp .le 7, 3) := by decide +kernel
theorem dX1_lay_80 : decode cX1_lay 80 = .ok (.iconst 1, 1) := by decide +kernel
theorem dX1_lay_81 : decode cX1_lay 81 = .ok (.goto 4, 3) := by decide +kernel
theorem dX1_lay_84 : decode cX1_lay 84 = .ok (.iconst 0, 1) := by decide +kernel
theorem dX1_lay_85 : decode cX1_lay 85 = .ok (.putfield 28, 3) := by decide +kernel
theorem dX1_lay_88 : decode cX1_lay 88 = .ok (.aload_n 0, 1) := by decide +kernel
theorem dX1_lay_89 : decode cX1_lay 89 = .ok (.getfield 11, 3) := by decide +kernel
theorem dX1_lay_92 : decode cX1_lay 92 = .ok (.aload_n 0, 1) := by decide +kernel
theorem dX1_lay_93 : decode cX1_lay 93 = .ok (.getfield 22, 3) := by decide +kernel
theorem dX1_lay_96 : decode cX1_lay 96 = .ok (.aload_n 0, 1) := by decide +kernel
theorem dX1_lay_97 : decode cX1_lay 97 = .ok (.getfield 11, 3) := by decide +kernel
theorem dX1_lay_100 : decode cX1_lay 100 = .ok (.aload_n 0, 1) := by decide +kernel
theorem dX1_lay_101 : decode cX1_lay 101 = .ok (.getfield 22, 3) := by decide +kernel
theorem dX1_lay_104 : decode cX1_lay 104 = .ok (.iaload, 1) := by decide +kernel
theorem dX1_lay_105 : decode cX1_lay 105 = .ok (.aload_n 0, 1) := by decide +kernel
theorem dX1_lay_106 : decode cX1_lay 106 = .ok (.getfield 19, 3) := by decide +kernel
theorem dX1_lay_109 : decode cX1_lay 109 = .ok (.iload_n 1, 1) := by decide +kernel
theorem dX1_lay_110 : decode cX1_lay 110 = .ok (.iadd, 1) := by decide +kernel
theorem dX1_lay_111 : decode cX1_lay 111 = .ok (.invokestatic 38, 3) := by decide +kernel
theorem dX1_lay_114 : decode cX1_lay 114 = .ok (.iastore, 1) := by decide +kernel
theorem dX1_lay_115 : decode cX1_lay 115 = .ok (.aload_n 0, 1) := by decide +kernel
theorem dX1_lay_116 : decode cX1_lay 116 = .ok (.dup, 1) := by decide +kernel
theorem dX1_lay_117 : decode cX1_lay 117 = .ok (.getfield 22, 3) := by decide +kernel
theorem dX1_lay_120 : decode cX1_lay 120 = .ok (.iconst 1, 1) := by decide +kernel
theorem dX1_lay_121 : decode cX1_lay 121 = .ok (.iadd, 1) := by decide +kernel
theorem dX1_lay_122 : decode cX1_lay 122 = .ok (.putfield 22, 3) := by decide +kernel
theorem dX1_lay_125 : decode cX1_lay 125 = .ok (.iinc 3 1, 3) := by decide +kernel
theorem dX1_lay_128 : decode cX1_lay 128 = .ok (.goto (-87), 3) := by decide +kernel
theorem dX1_lay_131 : decode cX1_lay 131 = .ok (.aload_n 0, 1) := by decide +kernel
theorem dX1_lay_132 : decode cX1_lay 132 = .ok (.aload_n 0, 1) := by decide +kernel
theorem dX1_lay_133 : decode cX1_lay 133 = .ok (.getfield 15, 3) := by decide +kernel
theorem dX1_lay_136 : decode cX1_lay 136 = .ok (.aload_n 0, 1) := by decide +kernel
theorem dX1_lay_137 : decode cX1_lay 137 = .ok (.getfield 22, 3) := by decide +kernel
theorem dX1_lay_140 : decode cX1_lay 140 = .ok (.invokestatic 38, 3) := by decide +kernel
theorem dX1_lay_143 : decode cX1_lay 143 = .ok (.putfield 15, 3) := by decide +kernel
theorem dX1_lay_146 : decode cX1_lay 146 = .ok (.return_, 1) := by decide +kernel
theorem dX1_endRow_0 : decode cX1_endRow 0 = .ok (.aload_n 0, 1) := by decide +kernel
theorem dX1_endRow_1 : decode cX1_endRow 1 = .ok (.getfield 15, 3) := by decide +kernel
theorem dX1_endRow_4 : decode cX1_endRow 4 = .ok (.istore_n 1, 1) := by decide +kernel
theorem dX1_endRow_5 : decode cX1_endRow 5 = .ok (.iload_n 1, 1) := by decide +kernel
theorem dX1_endRow_6 : decode cX1_endRow 6 = .ok (.ifCond .le 24, 3) := by decide +kernel
theorem dX1_endRow_9 : decode cX1_endRow 9 = .ok (.aload_n 0, 1) := by decide +kernel
theorem dX1_endRow_10 : decode cX1_endRow 10 = .ok (.getfield 11, 3) := by decide +kernel
theorem dX1_endRow_13 : decode cX1_endRow 13 = .ok (.iload_n 1, 1) := by decide +kernel
theorem dX1_endRow_14 : decode cX1_endRow 14 = .ok (.iconst 1, 1) := by decide +kernel
theorem dX1_endRow_15 : decode cX1_endRow 15 = .ok (.isub, 1) := by decide +kernel
theorem dX1_endRow_16 : decode cX1_endRow 16 = .ok (.iaload, 1) := by decide +kernel
theorem dX1_endRow_17 : decode cX1_endRow 17 = .ok (.aload_n 0, 1) := by decide +kernel
theorem dX1_endRow_18 : decode cX1_endRow 18 = .ok (.getfield 19, 3) := by decide +kernel
theorem dX1_endRow_21 : decode cX1_endRow 21 = .ok (.if_icmp .gt 9, 3) := by decide +kernel
theorem dX1_endRow_24 : decode cX1_endRow 24 = .ok (.iinc 1 (-1), 3) := by decide +kernel
theorem dX1_endRow_27 : decode cX1_endRow 27 = .ok (.goto (-22), 3) := by decide +kernel
theorem dX1_endRow_30 : decode cX1_endRow 30 = .ok (.aload_n 0, 1) := by decide +kernel
theorem dX1_endRow_31 : decode cX1_endRow 31 = .ok (.aload_n 0, 1) := by decide +kernel
theorem dX1_endRow_32 : decode cX1_endRow 32 = .ok (.getfield 28, 3) := by decide +kernel
theorem dX1_endRow_35 : decode cX1_endRow 35 = .ok (.ifCond .ne 19, 3) := by decide +kernel
theorem dX1_endRow_38 : decode cX1_endRow 38 = .ok (.aload_n 0, 1) := by decide +kernel
theorem dX1_endRow_39 : decode cX1_endRow 39 = .ok (.getfield 25, 3) := by decide +kernel
theorem dX1_endRow_42 : decode cX1_endRow 42 = .ok (.iconst (-1), 1) := by decide +kernel
theorem dX1_endRow_43 : decode cX1_endRow 43 = .ok (.if_icmp .eq 15, 3) := by decide +kernel
theorem dX1_endRow_46 : decode cX1_endRow 46 = .ok (.aload_n 0, 1) := by decide +kernel
theorem dX1_endRow_47 : decode cX1_endRow 47 = .ok (.getfield 25, 3) := by decide +kernel
theorem dX1_endRow_50 : decode cX1_endRow 50 = .ok (.iload_n 1, 1) := by decide +kernel
theorem dX1_endRow_51 : decode cX1_endRow 51 = .ok (.if_icmp .eq 7, 3) := by decide +kernel
theorem dX1_endRow_54 : decode cX1_endRow 54 = .ok (.iconst 1, 1) := by decide +kernel
theorem dX1_endRow_55 : decode cX1_endRow 55 = .ok (.goto 4, 3) := by decide +kernel
theorem dX1_endRow_58 : decode cX1_endRow 58 = .ok (.iconst 0, 1) := by decide +kernel
theorem dX1_endRow_59 : decode cX1_endRow 59 = .ok (.putfield 28, 3) := by decide +kernel
theorem dX1_endRow_62 : decode cX1_endRow 62 = .ok (.aload_n 0, 1) := by decide +kernel
theorem dX1_endRow_63 : decode cX1_endRow 63 = .ok (.iload_n 1, 1) := by decide +kernel
theorem dX1_endRow_64 : decode cX1_endRow 64 = .ok (.putfield 25, 3) := by decide +kernel
theorem dX1_endRow_67 : decode cX1_endRow 67 = .ok (.aload_n 0, 1) := by decide +kernel
theorem dX1_endRow_68 : decode cX1_endRow 68 = .ok (.dup, 1) := by decide +kernel
theorem dX1_endRow_69 : decode cX1_endRow 69 = .ok (.getfield 19, 3) := by decide +kernel
theorem dX1_endRow_72 : decode cX1_endRow 72 = .ok (.iconst 1, 1) := by decide +kernel
theorem dX1_endRow_73 : decode cX1_endRow 73 = .ok (.iadd, 1) := by decide +kernel
theorem dX1_endRow_74 : decode cX1_endRow 74 = .ok (.putfield 19, 3) := by decide +kernel
theorem dX1_endRow_77 : decode cX1_endRow 77 = .ok (.return_, 1) := by decide +kernel
theorem dX2_init_0 : decode cX2_init 0 = .ok (.aload_n 0, 1) := by decide +kernel
theorem dX2_init_1 : decode cX2_init 1 = .ok (.invokespecial 3, 3) := by decide +kernel
theorem dX2_init_4 : decode cX2_init 4 = .ok (.aload_n 0, 1) := by decide +kernel
theorem dX2_init_5 : decode cX2_init 5 = .ok (.bipush 60, 2) := by decide +kernel
theorem dX2_init_7 : decode cX2_init 7 = .ok (.newarray .int, 2) := by decide +kernel
theorem dX2_init_9 : decode cX2_init 9 = .ok (.putfield 9, 3) := by decide +kernel
theorem dX2_init_12 : decode cX2_init 12 = .ok (.aload_n 0, 1) := by decide +kernel
theorem dX2_init_13 : decode cX2_init 13 = .ok (.bipush 60, 2) := by decide +kernel
theorem dX2_init_15 : decode cX2_init 15 = .ok (.newarray .int, 2) := by decide +kernel
theorem dX2_init_17 : decode cX2_init 17 = .ok (.putfield 15, 3) := by decide +kernel
theorem dX2_init_20 : decode cX2_init 20 = .ok (.aload_n 0, 1) := by decide +kernel
theorem dX2_init_21 : decode cX2_init 21 = .ok (.bipush 60, 2) := by decide +kernel
theorem dX2_init_23 : decode cX2_init 23 = .ok (.newarray .int, 2) := by decide +kernel
theorem dX2_init_25 : decode cX2_init 25 = .ok (.putfield 18, 3) := by decide +kernel
theorem dX2_init_28 : decode cX2_init 28 = .ok (.aload_n 0, 1) := by decide +kernel
theorem dX2_init_29 : decode cX2_init 29 = .ok (.iconst 0, 1) := by decide +kernel
theorem dX2_init_30 : decode cX2_init 30 = .ok (.putfield 21, 3) := by decide +kernel
theorem dX2_init_33 : decode cX2_init 33 = .ok (.return_, 1) := by decide +kernel
theorem dX2_append_0 : decode cX2_append 0 = .ok (.aload_n 0, 1) := by decide +kernel
theorem dX2_append_1 : decode cX2_append 1 = .ok (.getfield 21, 3) := by decide +kernel
theorem dX2_append_4 : decode cX2_append 4 = .ok (.bipush 60, 2) := by decide +kernel
theorem dX2_append_6 : decode cX2_append 6 = .ok (.if_icmp .ge 47, 3) := by decide +kernel
theorem dX2_append_9 : decode cX2_append 9 = .ok (.aload_n 0, 1) := by decide +kernel
theorem dX2_append_10 : decode cX2_append 10 = .ok (.getfield 9, 3) := by decide +kernel
theorem dX2_append_13 : decode cX2_append 13 = .ok (.aload_n 0, 1) := by decide +kernel
theorem dX2_append_14 : decode cX2_append 14 = .ok (.getfield 21, 3) := by decide +kernel
theorem dX2_append_17 : decode cX2_append 17 = .ok (.iload_n 1, 1) := by decide +kernel
theorem dX2_append_18 : decode cX2_append 18 = .ok (.iastore, 1) := by decide +kernel
theorem dX2_append_19 : decode cX2_append 19 = .ok (.aload_n 0, 1) := by decide +kernel
theorem dX2_append_20 : decode cX2_append 20 = .ok (.getfield 15, 3) := by decide +kernel
theorem dX2_append_23 : decode cX2_append 23 = .ok (.aload_n 0, 1) := by decide +kernel
theorem dX2_append_24 : decode cX2_append 24 = .ok (.getfield 21, 3) := by decide +kernel
theorem dX2_append_27 : decode cX2_append 27 = .ok (.iload_n 2, 1) := by decide +kernel
theorem dX2_append_28 : decode cX2_append 28 = .ok (.iastore, 1) := by decide +kernel
theorem dX2_append_29 : decode cX2_append 29 = .ok (.aload_n 0, 1) := by decide +kernel
theorem dX2_append_30 : decode cX2_append 30 = .ok (.getfield 18, 3) := by decide +kernel
theorem dX2_append_33 : decode cX2_append 33 = .ok (.aload_n 0, 1) := by decide +kernel
theorem dX2_append_34 : decode cX2_append 34 = .ok (.getfield 21, 3) := by decide +kernel
theorem dX2_append_37 : decode cX2_append 37 = .ok (.aload_n 0, 1) := by decide +kernel
theorem dX2_append_38 : decode cX2_append 38 = .ok (.iload_n 2, 1) := by decide +kernel
theorem dX2_append_39 : decode cX2_append 39 = .ok (.invokevirtual 25, 3) := by decide +kernel
theorem dX2_append_42 : decode cX2_append 42 = .ok (.iastore, 1) := by decide +kernel
theorem dX2_append_43 : decode cX2_append 43 = .ok (.aload_n 0, 1) := by decide +kernel
theorem dX2_append_44 : decode cX2_append 44 = .ok (.dup, 1) := by decide +kernel
theorem dX2_append_45 : decode cX2_append 45 = .ok (.getfield 21, 3) := by decide +kernel
theorem dX2_append_48 : decode cX2_append 48 = .ok (.iconst 1, 1) := by decide +kernel
theorem dX2_append_49 : decode cX2_append 49 = .ok (.iadd, 1) := by decide +kernel
theorem dX2_append_50 : decode cX2_append 50 = .ok (.putfield 21, 3) := by decide +kernel
theorem dX2_append_53 : decode cX2_append 53 = .ok (.return_, 1) := by decide +kernel
theorem dX2_depthBehind_0 : decode cX2_depthBehind 0 = .ok (.aload_n 0, 1) := by decide +kernel
theorem dX2_depthBehind_1 : decode cX2_depthBehind 1 = .ok (.getfield 21, 3) := by decide +kernel
theorem dX2_depthBehind_4 : decode cX2_depthBehind 4 = .ok (.iconst 1, 1) := by decide +kernel
theorem dX2_depthBehind_5 : decode cX2_depthBehind 5 = .ok (.isub, 1) := by decide +kernel
theorem dX2_depthBehind_6 : decode cX2_depthBehind 6 = .ok (.istore_n 2, 1) := by decide +kernel
theorem dX2_depthBehind_7 : decode cX2_depthBehind 7 = .ok (.iload_n 2, 1) := by decide +kernel
theorem dX2_depthBehind_8 : decode cX2_depthBehind 8 = .ok (.ifCond .lt 28, 3) := by decide +kernel
theorem dX2_depthBehind_11 : decode cX2_depthBehind 11 = .ok (.aload_n 0, 1) := by decide +kernel
theorem dX2_depthBehind_12 : decode cX2_depthBehind 12 = .ok (.getfield 15, 3) := by decide +kernel
theorem dX2_depthBehind_15 : decode cX2_depthBehind 15 = .ok (.iload_n 2, 1) := by decide +kernel
theorem dX2_depthBehind_16 : decode cX2_depthBehind 16 = .ok (.iaload, 1) := by decide +kernel
theorem dX2_depthBehind_17 : decode cX2_depthBehind 17 = .ok (.iload_n 1, 1) := by decide +kernel
theorem dX2_depthBehind_18 : decode cX2_depthBehind 18 = .ok (.if_icmp .ge 12, 3) := by decide +kernel
theorem dX2_depthBehind_21 : decode cX2_depthBehind 21 = .ok (.aload_n 0, 1) := by decide +kernel
theorem dX2_depthBehind_22 : decode cX2_depthBehind 22 = .ok (.getfield 18, 3) := by decide +kernel
theorem dX2_depthBehind_25 : decode cX2_depthBehind 25 = .ok (.iload_n 2, 1) := by decide +kernel
theorem dX2_depthBehind_26 : decode cX2_depthBehind 26 = .ok (.iaload, 1) := by decide +kernel
theorem dX2_depthBehind_27 : decode cX2_depthBehind 27 = .ok (.iconst 1, 1) := by decide +kernel
theorem dX2_depthBehind_28 : decode cX2_depthBehind 28 = .ok (.iadd, 1) := by decide +kernel
theorem dX2_depthBehind_29 : decode cX2_depthBehind 29 = .ok (.ireturn, 1) := by decide +kernel
theorem dX2_depthBehind_30 : decode cX2_depthBehind 30 = .ok (.iinc 2 (-1), 3) := by decide +kernel
theorem dX2_depthBehind_33 : decode cX2_depthBehind 33 = .ok (.goto (-26), 3) := by decide +kernel
theorem dX2_depthBehind_36 : decode cX2_depthBehind 36 = .ok (.iconst 0, 1) := by decide +kernel
theorem dX2_depthBehind_37 : decode cX2_depthBehind 37 = .ok (.ireturn, 1) := by decide +kernel
theorem dX3_init_0 : decode cX3_init 0 = .ok (.aload_n 0, 1) := by decide +kernel
theorem dX3_init_1 : decode cX3_init 1 = .ok (.invokespecial 3, 3) := by decide +kernel
theorem dX3_init_4 : decode cX3_init 4 = .ok (.aload_n 0, 1) := by decide +kernel
theorem dX3_init_5 : decode cX3_init 5 = .ok (.sipush 200, 3) := by decide +kernel
theorem dX3_init_8 : decode cX3_init 8 = .ok (.newarray .int, 2) := by decide +kernel
theorem dX3_init_10 : decode cX3_init 10 = .ok (.putfield 9, 3) := by decide +kernel
theorem dX3_init_13 : decode cX3_init 13 = .ok (.aload_n 0, 1) := by decide +kernel
theorem dX3_init_14 : decode cX3_init 14 = .ok (.sipush 200, 3) := by decide +kernel
theorem dX3_init_17 : decode cX3_init 17 = .ok (.newarray .int, 2) := by decide +kernel
theorem dX3_init_19 : decode cX3_init 19 = .ok (.putfield 15, 3) := by decide +kernel
theorem dX3_init_22 : decode cX3_init 22 = .ok (.aload_n 0, 1) := by decide +kernel
theorem dX3_init_23 : decode cX3_init 23 = .ok (.bipush 10, 2) := by decide +kernel
theorem dX3_init_25 : decode cX3_init 25 = .ok (.newarray .int, 2) := by decide +kernel
theorem dX3_init_27 : decode cX3_init 27 = .ok (.putfield 18, 3) := by decide +kernel
theorem dX3_init_30 : decode cX3_init 30 = .ok (.aload_n 0, 1) := by decide +kernel
theorem dX3_init_31 : decode cX3_init 31 = .ok (.getfield 15, 3) := by decide +kernel
theorem dX3_init_34 : decode cX3_init 34 = .ok (.iconst (-1), 1) := by decide +kernel
theorem dX3_init_35 : decode cX3_init 35 = .ok (.invokestatic 21, 3) := by decide +kernel
theorem dX3_init_38 : decode cX3_init 38 = .ok (.return_, 1) := by decide +kernel
theorem dX3_show_0 : decode cX3_show 0 = .ok (.iload_n 1, 1) := by decide +kernel
theorem dX3_show_1 : decode cX3_show 1 = .ok (.bipush 20, 2) := by decide +kernel
theorem dX3_show_3 : decode cX3_show 3 = .ok (.imul, 1) := by decide +kernel
theorem dX3_show_4 : decode cX3_show 4 = .ok (.istore_n 3, 1) := by decide +kernel
theorem dX3_show_5 : decode cX3_show 5 = .ok (.aload_n 0, 1) := by decide +kernel
theorem dX3_show_6 : decode cX3_show 6 = .ok (.getfield 18, 3) := by decide +kernel
theorem dX3_show_9 : decode cX3_show 9 = .ok (.iload_n 1, 1) := by decide +kernel
theorem dX3_show_10 : decode cX3_show 10 = .ok (.iaload, 1) := by decide +kernel
theorem dX3_show_11 : decode cX3_show 11 = .ok (.istore 4, 2) := by decide +kernel
theorem dX3_show_13 : decode cX3_show 13 = .ok (.aload_n 0, 1) := by decide +kernel
theorem dX3_show_14 : decode cX3_show 14 = .ok (.getfield 15, 3) := by decide +kernel
theorem dX3_show_17 : decode cX3_show 17 = .ok (.iload_n 3, 1) := by decide +kernel
theorem dX3_show_18 : decode cX3_show 18 = .ok (.iload_n 2, 1) := by decide +kernel
theorem dX3_show_19 : decode cX3_show 19 = .ok (.iadd, 1) := by decide +kernel
theorem dX3_show_20 : decode cX3_show 20 = .ok (.iaload, 1) := by decide +kernel
theorem dX3_show_21 : decode cX3_show 21 = .ok (.iconst (-1), 1) := by decide +kernel
theorem dX3_show_22 : decode cX3_show 22 = .ok (.if_icmp .ne 10, 3) := by decide +kernel
theorem dX3_show_25 : decode cX3_show 25 = .ok (.iload 4, 2) := by decide +kernel
theorem dX3_show_27 : decode cX3_show 27 = .ok (.bipush 20, 2) := by decide +kernel
theorem dX3_show_29 : decode cX3_show 29 = .ok (.if_icmp .lt 5, 3) := by decide +kernel
theorem dX3_show_32 : decode cX3_show 32 = .ok (.iconst 0, 1) := by decide +kernel
theorem dX3_show_33 : decode cX3_show 33 = .ok (.ireturn, 1) := by decide +kernel
theorem dX3_show_34 : decode cX3_show 34 = .ok (.aload_n 0, 1) := by decide +kernel
theorem dX3_show_35 : decode cX3_show 35 = .ok (.getfield 9, 3) := by decide +kernel
theorem dX3_show_38 : decode cX3_show 38 = .ok (.iload_n 3, 1) := by decide +kernel
theorem dX3_show_39 : decode cX3_show 39 = .ok (.iload 4, 2) := by decide +kernel
theorem dX3_show_41 : decode cX3_show 41 = .ok (.iadd, 1) := by decide +kernel
theorem dX3_show_42 : decode cX3_show 42 = .ok (.iload_n 3, 1) := by decide +kernel
theorem dX3_show_43 : decode cX3_show 43 = .ok (.iload_n 2, 1) := by decide +kernel
theorem dX3_show_44 : decode cX3_show 44 = .ok (.iadd, 1) := by decide +kernel
theorem dX3_show_45 : decode cX3_show 45 = .ok (.iastore, 1) := by decide +kernel
theorem dX3_show_46 : decode cX3_show 46 = .ok (.aload_n 0, 1) := by decide +kernel
theorem dX3_show_47 : decode cX3_show 47 = .ok (.getfield 15, 3) := by decide +kernel
theorem dX3_show_50 : decode cX3_show 50 = .ok (.iload_n 3, 1) := by decide +kernel
theorem dX3_show_51 : decode cX3_show 51 = .ok (.iload_n 2, 1) := by decide +kernel
theorem dX3_show_52 : decode cX3_show 52 = .ok (.iadd, 1) := by decide +kernel
theorem dX3_show_53 : decode cX3_show 53 = .ok (.iload 4, 2) := by decide +kernel
theorem dX3_show_55 : decode cX3_show 55 = .ok (.iastore, 1) := by decide +kernel
theorem dX3_show_56 : decode cX3_show 56 = .ok (.aload_n 0, 1) := by decide +kernel
theorem dX3_show_57 : decode cX3_show 57 = .ok (.getfield 18, 3) := by decide +kernel
theorem dX3_show_60 : decode cX3_show 60 = .ok (.iload_n 1, 1) := by decide +kernel
theorem dX3_show_61 : decode cX3_show 61 = .ok (.dup2, 1) := by decide +kernel
theorem dX3_show_62 : decode cX3_show 62 = .ok (.iaload, 1) := by decide +kernel
theorem dX3_show_63 : decode cX3_show 63 = .ok (.iconst 1, 1) := by decide +kernel
theorem dX3_show_64 : decode cX3_show 64 = .ok (.iadd, 1) := by decide +kernel
theorem dX3_show_65 : decode cX3_show 65 = .ok (.iastore, 1) := by decide +kernel
theorem dX3_show_66 : decode cX3_show 66 = .ok (.aload_n 0, 1) := by decide +kernel
theorem dX3_show_67 : decode cX3_show 67 = .ok (.getfield 18, 3) := by decide +kernel
theorem dX3_show_70 : decode cX3_show 70 = .ok (.iload_n 1, 1) := by decide +kernel
theorem dX3_show_71 : decode cX3_show 71 = .ok (.iaload, 1) := by decide +kernel
theorem dX3_show_72 : decode cX3_show 72 = .ok (.ireturn, 1) := by decide +kernel
theorem dX3_shownBy_0 : decode cX3_shownBy 0 = .ok (.aload_n 0, 1) := by decide +kernel
theorem dX3_shownBy_1 : decode cX3_shownBy 1 = .ok (.getfield 18, 3) := by decide +kernel
theorem dX3_shownBy_4 : decode cX3_shownBy 4 = .ok (.iload_n 1, 1) := by decide +kernel
theorem dX3_shownBy_5 : decode cX3_shownBy 5 = .ok (.iaload, 1) := by decide +kernel
theorem dX3_shownBy_6 : decode cX3_shownBy 6 = .ok (.ireturn, 1) := by decide +kernel
theorem dX3_codeAt_0 : decode cX3_codeAt 0 = .ok (.aload_n 0, 1) := by decide +kernel
theorem dX3_codeAt_1 : decode cX3_codeAt 1 = .ok (.getfield 9, 3) := by decide +kernel
theorem dX3_codeAt_4 : decode cX3_codeAt 4 = .ok (.iload_n 1, 1) := by decide +kernel
theorem dX3_codeAt_5 : decode cX3_codeAt 5 = .ok (.bipush 20, 2) := by decide +kernel
theorem dX3_codeAt_7 : decode cX3_codeAt 7 = .ok (.imul, 1) := by decide +kernel
theorem dX3_codeAt_8 : decode cX3_codeAt 8 = .ok (.iload_n 2, 1) := by decide +kernel
theorem dX3_codeAt_9 : decode cX3_codeAt 9 = .ok (.iadd, 1) := by decide +kernel
theorem dX3_codeAt_10 : decode cX3_codeAt 10 = .ok (.iaload, 1) := by decide +kernel
theorem dX3_codeAt_11 : decode cX3_codeAt 11 = .ok (.ireturn, 1) := by decide +kernel
theorem dX3_placeOf_0 : decode cX3_placeOf 0 = .ok (.aload_n 0, 1) := by decide +kernel
theorem dX3_placeOf_1 : decode cX3_placeOf 1 = .ok (.getfield 15, 3) := by decide +kernel
theorem dX3_placeOf_4 : decode cX3_placeOf 4 = .ok (.iload_n 1, 1) := by decide +kernel
theorem dX3_placeOf_5 : decode cX3_placeOf 5 = .ok (.iaload, 1) := by decide +kernel
theorem dX3_placeOf_6 : decode cX3_placeOf 6 = .ok (.ireturn, 1) := by decide +kernel
theorem dX4_init_0 : decode cX4_init 0 = .ok (.aload_n 0, 1) := by decide +kernel
theorem dX4_init_1 : decode cX4_init 1 = .ok (.invokespecial 3, 3) := by decide +kernel
theorem dX4_init_4 : decode cX4_init 4 = .ok (.aload_n 0, 1) := by decide +kernel
theorem dX4_init_5 : decode cX4_init 5 = .ok (.bipush 20, 2) := by decide +kernel
theorem dX4_init_7 : decode cX4_init 7 = .ok (.newarray .int, 2) := by decide +kernel
theorem dX4_init_9 : decode cX4_init 9 = .ok (.putfield 9, 3) := by decide +kernel
theorem dX4_init_12 : decode cX4_init 12 = .ok (.aload_n 0, 1) := by decide +kernel
theorem dX4_init_13 : decode cX4_init 13 = .ok (.getfield 9, 3) := by decide +kernel
theorem dX4_init_16 : decode cX4_init 16 = .ok (.iconst (-1), 1) := by decide +kernel
theorem dX4_init_17 : decode cX4_init 17 = .ok (.invokestatic 15, 3) := by decide +kernel
theorem dX4_init_20 : decode cX4_init 20 = .ok (.return_, 1) := by decide +kernel
theorem dX4_isOwn_0 : decode cX4_isOwn 0 = .ok (.iload_n 0, 1) := by decide +kernel
theorem dX4_isOwn_1 : decode cX4_isOwn 1 = .ok (.bipush 100, 2) := by decide +kernel
theorem dX4_isOwn_3 : decode cX4_isOwn 3 = .ok (.if_icmp .lt 13, 3) := by decide +kernel
theorem dX4_isOwn_6 : decode cX4_isOwn 6 = .ok (.iload_n 0, 1) := by decide +kernel
theorem dX4_isOwn_7 : decode cX4_isOwn 7 = .ok (.bipush 120, 2) := by decide +kernel
theorem dX4_isOwn_9 : decode cX4_isOwn 9 = .ok (.if_icmp .ge 7, 3) := by decide +kernel
theorem dX4_isOwn_12 : decode cX4_isOwn 12 = .ok (.iconst 1, 1) := by decide +kernel
theorem dX4_isOwn_13 : decode cX4_isOwn 13 = .ok (.goto 4, 3) := by decide +kernel
theorem dX4_isOwn_16 : decode cX4_isOwn 16 = .ok (.iconst 0, 1) := by decide +kernel
theorem dX4_isOwn_17 : decode cX4_isOwn 17 = .ok (.ireturn, 1) := by decide +kernel
theorem dX4_isRole_0 : decode cX4_isRole 0 = .ok (.iload_n 0, 1) := by decide +kernel
theorem dX4_isRole_1 : decode cX4_isRole 1 = .ok (.invokestatic 21, 3) := by decide +kernel
theorem dX4_isRole_4 : decode cX4_isRole 4 = .ok (.ifCond .ne 13, 3) := by decide +kernel
theorem dX4_isRole_7 : decode cX4_isRole 7 = .ok (.iload_n 0, 1) := by decide +kernel
theorem dX4_isRole_8 : decode cX4_isRole 8 = .ok (.ifCond .lt 13, 3) := by decide +kernel
theorem dX4_isRole_11 : decode cX4_isRole 11 = .ok (.iload_n 0, 1) := by decide +kernel
theorem dX4_isRole_12 : decode cX4_isRole 12 = .ok (.bipush 12, 2) := by decide +kernel
theorem dX4_isRole_14 : decode cX4_isRole 14 = .ok (.if_icmp .gt 7, 3) := by decide +kernel
theorem dX4_isRole_17 : decode cX4_isRole 17 = .ok (.iconst 1, 1) := by decide +kernel
theorem dX4_isRole_18 : decode cX4_isRole 18 = .ok (.goto 4, 3) := by decide +kernel
theorem dX4_isRole_21 : decode cX4_isRole 21 = .ok (.iconst 0, 1) := by decide +kernel
theorem dX4_isRole_22 : decode cX4_isRole 22 = .ok (.ireturn, 1) := by decide +kernel
theorem dX4_lead_0 : decode cX4_lead 0 = .ok (.iload_n 1, 1) := by decide +kernel
theorem dX4_lead_1 : decode cX4_lead 1 = .ok (.invokestatic 21, 3) := by decide +kernel
theorem dX4_lead_4 : decode cX4_lead 4 = .ok (.ifCond .eq 13, 3) := by decide +kernel
theorem dX4_lead_7 : decode cX4_lead 7 = .ok (.aload_n 0, 1) := by decide +kernel
theorem dX4_lead_8 : decode cX4_lead 8 = .ok (.getfield 9, 3) := by decide +kernel
theorem dX4_lead_11 : decode cX4_lead 11 = .ok (.iload_n 1, 1) := by decide +kernel
theorem dX4_lead_12 : decode cX4_lead 12 = .ok (.bipush 100, 2) := by decide +kernel
theorem dX4_lead_14 : decode cX4_lead 14 = .ok (.isub, 1) := by decide +kernel
theorem dX4_lead_15 : decode cX4_lead 15 = .ok (.iload_n 2, 1) := by decide +kernel
theorem dX4_lead_16 : decode cX4_lead 16 = .ok (.iastore, 1) := by decide +kernel
theorem dX4_lead_17 : decode cX4_lead 17 = .ok (.return_, 1) := by decide +kernel
theorem dX4_leads_0 : decode cX4_leads 0 = .ok (.iload_n 1, 1) := by decide +kernel
theorem dX4_leads_1 : decode cX4_leads 1 = .ok (.istore_n 3, 1) := by decide +kernel
theorem dX4_leads_2 : decode cX4_leads 2 = .ok (.iconst 0, 1) := by decide +kernel
theorem dX4_leads_3 : decode cX4_leads 3 = .ok (.istore 4, 2) := by decide +kernel
theorem dX4_leads_5 : decode cX4_leads 5 = .ok (.iload 4, 2) := by decide +kernel
theorem dX4_leads_7 : decode cX4_leads 7 = .ok (.bipush 20, 2) := by decide +kernel
theorem dX4_leads_9 : decode cX4_leads 9 = .ok (.if_icmp .ge 31, 3) := by decide +kernel
theorem dX4_leads_12 : decode cX4_leads 12 = .ok (.iload_n 3, 1) := by decide +kernel
theorem dX4_leads_13 : decode cX4_leads 13 = .ok (.iload_n 2, 1) := by decide +kernel
theorem dX4_leads_14 : decode cX4_leads 14 = .ok (.if_icmp .eq 26, 3) := by decide +kernel
theorem dX4_leads_17 : decode cX4_leads 17 = .ok (.iload_n 3, 1) := by decide +kernel
theorem dX4_leads_18 : decode cX4_leads 18 = .ok (.invokestatic 21, 3) := by decide +kernel
theorem dX4_leads_21 : decode cX4_leads 21 = .ok (.ifCond .eq 19, 3) := by decide +kernel
theorem dX4_leads_24 : decode cX4_leads 24 = .ok (.aload_n 0, 1) := by decide +kernel
theorem dX4_leads_25 : decode cX4_leads 25 = .ok (.getfield 9, 3) := by decide +kernel
theorem dX4_leads_28 : decode cX4_leads 28 = .ok (.iload_n 3, 1) := by decide +kernel
theorem dX4_leads_29 : decode cX4_leads 29 = .ok (.bipush 100, 2) := by decide +kernel
theorem dX4_leads_31 : decode cX4_leads 31 = .ok (.isub, 1) := by decide +kernel
theorem dX4_leads_32 : decode cX4_leads 32 = .ok (.iaload, 1) := by decide +kernel
theorem dX4_leads_33 : decode cX4_leads 33 = .ok (.istore_n 3, 1) := by decide +kernel
theorem dX4_leads_34 : decode cX4_leads 34 = .ok (.iinc 4 1, 3) := by decide +kernel
theorem dX4_leads_37 : decode cX4_leads 37 = .ok (.goto (-32), 3) := by decide +kernel
theorem dX4_leads_40 : decode cX4_leads 40 = .ok (.iload_n 3, 1) := by decide +kernel
theorem dX4_leads_41 : decode cX4_leads 41 = .ok (.iload_n 2, 1) := by decide +kernel
theorem dX4_leads_42 : decode cX4_leads 42 = .ok (.if_icmp .ne 7, 3) := by decide +kernel
theorem dX4_leads_45 : decode cX4_leads 45 = .ok (.iconst 1, 1) := by decide +kernel
theorem dX4_leads_46 : decode cX4_leads 46 = .ok (.goto 4, 3) := by decide +kernel
theorem dX4_leads_49 : decode cX4_leads 49 = .ok (.iconst 0, 1) := by decide +kernel
theorem dX4_leads_50 : decode cX4_leads 50 = .ok (.ireturn, 1) := by decide +kernel
theorem dX4_standardOf_0 : decode cX4_standardOf 0 = .ok (.iload_n 1, 1) := by decide +kernel
theorem dX4_standardOf_1 : decode cX4_standardOf 1 = .ok (.istore_n 2, 1) := by decide +kernel
theorem dX4_standardOf_2 : decode cX4_standardOf 2 = .ok (.iconst 0, 1) := by decide +kernel
theorem dX4_standardOf_3 : decode cX4_standardOf 3 = .ok (.istore_n 3, 1) := by decide +kernel
theorem dX4_standardOf_4 : decode cX4_standardOf 4 = .ok (.iload_n 3, 1) := by decide +kernel
theorem dX4_standardOf_5 : decode cX4_standardOf 5 = .ok (.bipush 20, 2) := by decide +kernel
theorem dX4_standardOf_7 : decode cX4_standardOf 7 = .ok (.if_icmp .ge 26, 3) := by decide +kernel
theorem dX4_standardOf_10 : decode cX4_standardOf 10 = .ok (.iload_n 2, 1) := by decide +kernel
theorem dX4_standardOf_11 : decode cX4_standardOf 11 = .ok (.invokestatic 21, 3) := by decide +kernel
theorem dX4_standardOf_14 : decode cX4_standardOf 14 = .ok (.ifCond .eq 19, 3) := by decide +kernel
theorem dX4_standardOf_17 : decode cX4_standardOf 17 = .ok (.aload_n 0, 1) := by decide +kernel
theorem dX4_standardOf_18 : decode cX4_standardOf 18 = .ok (.getfield 9, 3) := by decide +kernel
theorem dX4_standardOf_21 : decode cX4_standardOf 21 = .ok (.iload_n 2, 1) := by decide +kernel
theorem dX4_standardOf_22 : decode cX4_standardOf 22 = .ok (.bipush 100, 2) := by decide +kernel
theorem dX4_standardOf_24 : decode cX4_standardOf 24 = .ok (.isub, 1) := by decide +kernel
theorem dX4_standardOf_25 : decode cX4_standardOf 25 = .ok (.iaload, 1) := by decide +kernel
theorem dX4_standardOf_26 : decode cX4_standardOf 26 = .ok (.istore_n 2, 1) := by decide +kernel
theorem dX4_standardOf_27 : decode cX4_standardOf 27 = .ok (.iinc 3 1, 3) := by decide +kernel
theorem dX4_standardOf_30 : decode cX4_standardOf 30 = .ok (.goto (-26), 3) := by decide +kernel
theorem dX4_standardOf_33 : decode cX4_standardOf 33 = .ok (.iload_n 2, 1) := by decide +kernel
theorem dX4_standardOf_34 : decode cX4_standardOf 34 = .ok (.invokestatic 21, 3) := by decide +kernel
theorem dX4_standardOf_37 : decode cX4_standardOf 37 = .ok (.ifCond .eq 7, 3) := by decide +kernel
theorem dX4_standardOf_40 : decode cX4_standardOf 40 = .ok (.iconst (-1), 1) := by decide +kernel
theorem dX4_standardOf_41 : decode cX4_standardOf 41 = .ok (.goto 4, 3) := by decide +kernel
theorem dX4_standardOf_44 : decode cX4_standardOf 44 = .ok (.iload_n 2, 1) := by decide +kernel
theorem dX4_standardOf_45 : decode cX4_standardOf 45 = .ok (.ireturn, 1) := by decide +kernel
theorem dX5_init_0 : decode cX5_init 0 = .ok (.aload_n 0, 1) := by decide +kernel
theorem dX5_init_1 : decode cX5_init 1 = .ok (.invokespecial 3, 3) := by decide +kernel
theorem dX5_init_4 : decode cX5_init 4 = .ok (.aload_n 0, 1) := by decide +kernel
theorem dX5_init_5 : decode cX5_init 5 = .ok (.bipush 60, 2) := by decide +kernel
theorem dX5_init_7 : decode cX5_init 7 = .ok (.newarray .int, 2) := by decide +kernel
theorem dX5_init_9 : decode cX5_init 9 = .ok (.putfield 9, 3) := by decide +kernel
theorem dX5_init_12 : decode cX5_init 12 = .ok (.aload_n 0, 1) := by decide +kernel
theorem dX5_init_13 : decode cX5_init 13 = .ok (.bipush 100, 2) := by decide +kernel
theorem dX5_init_15 : decode cX5_init 15 = .ok (.newarray .int, 2) := by decide +kernel
theorem dX5_init_17 : decode cX5_init 17 = .ok (.putfield 15, 3) := by decide +kernel
theorem dX5_init_20 : decode cX5_init 20 = .ok (.aload_n 0, 1) := by decide +kernel
theorem dX5_init_21 : decode cX5_init 21 = .ok (.iconst 0, 1) := by decide +kernel
theorem dX5_init_22 : decode cX5_init 22 = .ok (.putfield 18, 3) := by decide +kernel
theorem dX5_init_25 : decode cX5_init 25 = .ok (.aload_n 0, 1) := by decide +kernel
theorem dX5_init_26 : decode cX5_init 26 = .ok (.iconst 0, 1) := by decide +kernel
theorem dX5_init_27 : decode cX5_init 27 = .ok (.putfield 22, 3) := by decide +kernel
theorem dX5_init_30 : decode cX5_init 30 = .ok (.aload_n 0, 1) := by decide +kernel
theorem dX5_init_31 : decode cX5_init 31 = .ok (.aload_n 1, 1) := by decide +kernel
theorem dX5_init_32 : decode cX5_init 32 = .ok (.putfield 25, 3) := by decide +kernel
theorem dX5_init_35 : decode cX5_init 35 = .ok (.return_, 1) := by decide +kernel
theorem dX5_follow_0 : decode cX5_follow 0 = .ok (.aload_n 0, 1) := by decide +kernel
theorem dX5_follow_1 : decode cX5_follow 1 = .ok (.iconst 0, 1) := by decide +kernel
theorem dX5_follow_2 : decode cX5_follow 2 = .ok (.putfield 18, 3) := by decide +kernel
theorem dX5_follow_5 : decode cX5_follow 5 = .ok (.aload_n 0, 1) := by decide +kernel
theorem dX5_follow_6 : decode cX5_follow 6 = .ok (.iconst 0, 1) := by decide +kernel
theorem dX5_follow_7 : decode cX5_follow 7 = .ok (.putfield 22, 3) := by decide +kernel
theorem dX5_follow_10 : decode cX5_follow 10 = .ok (.iconst 0, 1) := by decide +kernel
theorem dX5_follow_11 : decode cX5_follow 11 = .ok (.istore_n 1, 1) := by decide +kernel
theorem dX5_follow_12 : decode cX5_follow 12 = .ok (.iconst 0, 1) := by decide +kernel
theorem dX5_follow_13 : decode cX5_follow 13 = .ok (.istore_n 2, 1) := by decide +kernel
theorem dX5_follow_14 : decode cX5_follow 14 = .ok (.iload_n 2, 1) := by decide +kernel
theorem dX5_follow_15 : decode cX5_follow 15 = .ok (.sipush 160, 3) := by decide +kernel
theorem dX5_follow_18 : decode cX5_follow 18 = .ok (.if_icmp .ge 35, 3) := by decide +kernel
theorem dX5_follow_21 : decode cX5_follow 21 = .ok (.iload_n 1, 1) := by decide +kernel
theorem dX5_follow_22 : decode cX5_follow 22 = .ok (.iconst (-1), 1) := by decide +kernel
theorem dX5_follow_23 : decode cX5_follow 23 = .ok (.if_icmp .eq 30, 3) := by decide +kernel
theorem dX5_follow_26 : decode cX5_follow 26 = .ok (.iload_n 1, 1) := by decide +kernel
theorem dX5_follow_27 : decode cX5_follow 27 = .ok (.invokestatic 29, 3) := by decide +kernel
theorem dX5_follow_30 : decode cX5_follow 30 = .ok (.ifCond .eq 11, 3) := by decide +kernel
theorem dX5_follow_33 : decode cX5_follow 33 = .ok (.aload_n 0, 1) := by decide +kernel
theorem dX5_follow_34 : decode cX5_follow 34 = .ok (.iload_n 1, 1) := by decide +kernel
theorem dX5_follow_35 : decode cX5_follow 35 = .ok (.invokevirtual 35, 3) := by decide +kernel
theorem dX5_follow_38 : decode cX5_follow 38 = .ok (.goto 8, 3) := by decide +kernel
theorem dX5_follow_41 : decode cX5_follow 41 = .ok (.aload_n 0, 1) := by decide +kernel
theorem dX5_follow_42 : decode cX5_follow 42 = .ok (.iload_n 1, 1) := by decide +kernel
theorem dX5_follow_43 : decode cX5_follow 43 = .ok (.invokevirtual 39, 3) := by decide +kernel
theorem dX5_follow_46 : decode cX5_follow 46 = .ok (.istore_n 1, 1) := by decide +kernel
theorem dX5_follow_47 : decode cX5_follow 47 = .ok (.iinc 2 1, 3) := by decide +kernel
theorem dX5_follow_50 : decode cX5_follow 50 = .ok (.goto (-36), 3) := by decide +kernel
theorem dX5_follow_53 : decode cX5_follow 53 = .ok (.return_, 1) := by decide +kernel
theorem dX5_passElement_0 : decode cX5_passElement 0 = .ok (.aload_n 0, 1) := by decide +kernel
theorem dX5_passElement_1 : decode cX5_passElement 1 = .ok (.getfield 25, 3) := by decide +kernel
theorem dX5_passElement_4 : decode cX5_passElement 4 = .ok (.iload_n 1, 1) := by decide +kernel
theorem dX5_passElement_5 : decode cX5_passElement 5 = .ok (.invokevirtual 42, 3) := by decide +kernel
theorem dX5_passElement_8 : decode cX5_passElement 8 = .ok (.bipush 12, 2) := by decide +kernel
theorem dX5_passElement_10 : decode cX5_passElement 10 = .ok (.if_icmp .ne 12, 3) := by decide +kernel
theorem dX5_passElement_13 : decode cX5_passElement 13 = .ok (.aload_n 0, 1) := by decide +kernel
theorem dX5_passElement_14 : decode cX5_passElement 14 = .ok (.getfield 25, 3) := by decide +kernel
theorem dX5_passElement_17 : decode cX5_passElement 17 = .ok (.iload_n 1, 1) := by decide +kernel
theorem dX5_passElement_18 : decode cX5_passElement 18 = .ok (.invokevirtual 45, 3) := by decide +kernel
theorem dX5_passElement_21 : decode cX5_passElement 21 = .ok (.ireturn, 1) := by decide +kernel
theorem dX5_passElement_22 : decode cX5_passElement 22 = .ok (.aload_n 0, 1) := by decide +kernel
theorem dX5_passElement_23 : decode cX5_passElement 23 = .ok (.getfield 18, 3) := by decide +kernel
theorem dX5_passElement_26 : decode cX5_passElement 26 = .ok (.bipush 60, 2) := by decide +kernel
theorem dX5_passElement_28 : decode cX5_passElement 28 = .ok (.if_icmp .ge 23, 3) := by decide +kernel
theorem dX5_passElement_31 : decode cX5_passElement 31 = .ok (.aload_n 0, 1) := by decide +kernel
theorem dX5_passElement_32 : decode cX5_passElement 32 = .ok (.getfield 9, 3) := by decide +kernel
theorem dX5_passElement_35 : decode cX5_passElement 35 = .ok (.aload_n 0, 1) := by decide +kernel
theorem dX5_passElement_36 : decode cX5_passElement 36 = .ok (.getfield 18, 3) := by decide +kernel
theorem dX5_passElement_39 : decode cX5_passElement 39 = .ok (.iload_n 1, 1) := by decide +kernel
theorem dX5_passElement_40 : decode cX5_passElement 40 = .ok (.iastore, 1) := by decide +kernel
theorem dX5_passElement_41 : decode cX5_passElement 41 = .ok (.aload_n 0, 1) := by decide +kernel
theorem dX5_passElement_42 : decode cX5_passElement 42 = .ok (.dup, 1) := by decide +kernel
theorem dX5_passElement_43 : decode cX5_passElement 43 = .ok (.getfield 18, 3) := by decide +kernel
theorem dX5_passElement_46 : decode cX5_passElement 46 = .ok (.iconst 1, 1) := by decide +kernel
theorem dX5_passElement_47 : decode cX5_passElement 47 = .ok (.iadd, 1) := by decide +kernel
theorem dX5_passElement_48 : decode cX5_passElement 48 = .ok (.putfield 18, 3) := by decide +kernel
theorem dX5_passElement_51 : decode cX5_passElement 51 = .ok (.aload_n 0, 1) := by decide +kernel
theorem dX5_passElement_52 : decode cX5_passElement 52 = .ok (.getfield 25, 3) := by decide +kernel
theorem dX5_passElement_55 : decode cX5_passElement 55 = .ok (.iload_n 1, 1) := by decide +kernel
theorem dX5_passElement_56 : decode cX5_passElement 56 = .ok (.invokevirtual 48, 3) := by decide +kernel
theorem dX5_passElement_59 : decode cX5_passElement 59 = .ok (.ireturn, 1) := by decide +kernel
theorem dX5_passPart_0 : decode cX5_passPart 0 = .ok (.aload_n 0, 1) := by decide +kernel
theorem dX5_passPart_1 : decode cX5_passPart 1 = .ok (.getfield 22, 3) := by decide +kernel
theorem dX5_passPart_4 : decode cX5_passPart 4 = .ok (.bipush 100, 2) := by decide +kernel
theorem dX5_passPart_6 : decode cX5_passPart 6 = .ok (.if_icmp .ge 26, 3) := by decide +kernel
theorem dX5_passPart_9 : decode cX5_passPart 9 = .ok (.aload_n 0, 1) := by decide +kernel
theorem dX5_passPart_10 : decode cX5_passPart 10 = .ok (.getfield 15, 3) := by decide +kernel
theorem dX5_passPart_13 : decode cX5_passPart 13 = .ok (.aload_n 0, 1) := by decide +kernel
theorem dX5_passPart_14 : decode cX5_passPart 14 = .ok (.getfield 22, 3) := by decide +kernel
theorem dX5_passPart_17 : decode cX5_passPart 17 = .ok (.iload_n 1, 1) := by decide +kernel
theorem dX5_passPart_18 : decode cX5_passPart 18 = .ok (.invokestatic 51, 3) := by decide +kernel
theorem dX5_passPart_21 : decode cX5_passPart 21 = .ok (.iastore, 1) := by decide +kernel
theorem dX5_passPart_22 : decode cX5_passPart 22 = .ok (.aload_n 0, 1) := by decide +kernel
theorem dX5_passPart_23 : decode cX5_passPart 23 = .ok (.dup, 1) := by decide +kernel
theorem dX5_passPart_24 : decode cX5_passPart 24 = .ok (.getfield 22, 3) := by decide +kernel
theorem dX5_passPart_27 : decode cX5_passPart 27 = .ok (.iconst 1, 1) := by decide +kernel
theorem dX5_passPart_28 : decode cX5_passPart 28 = .ok (.iadd, 1) := by decide +kernel
theorem dX5_passPart_29 : decode cX5_passPart 29 = .ok (.putfield 22, 3) := by decide +kernel
theorem dX5_passPart_32 : decode cX5_passPart 32 = .ok (.aload_n 0, 1) := by decide +kernel
theorem dX5_passPart_33 : decode cX5_passPart 33 = .ok (.getfield 25, 3) := by decide +kernel
theorem dX5_passPart_36 : decode cX5_passPart 36 = .ok (.iload_n 1, 1) := by decide +kernel
theorem dX5_passPart_37 : decode cX5_passPart 37 = .ok (.invokevirtual 45, 3) := by decide +kernel
theorem dX5_passPart_40 : decode cX5_passPart 40 = .ok (.ireturn, 1) := by decide +kernel
theorem dX6_init_0 : decode cX6_init 0 = .ok (.aload_n 0, 1) := by decide +kernel
theorem dX6_init_1 : decode cX6_init 1 = .ok (.invokespecial 3, 3) := by decide +kernel
theorem dX6_init_4 : decode cX6_init 4 = .ok (.aload_n 0, 1) := by decide +kernel
theorem dX6_init_5 : decode cX6_init 5 = .ok (.bipush 60, 2) := by decide +kernel
theorem dX6_init_7 : decode cX6_init 7 = .ok (.newarray .int, 2) := by decide +kernel
theorem dX6_init_9 : decode cX6_init 9 = .ok (.putfield 9, 3) := by decide +kernel
theorem dX6_init_12 : decode cX6_init 12 = .ok (.aload_n 0, 1) := by decide +kernel
theorem dX6_init_13 : decode cX6_init 13 = .ok (.bipush 60, 2) := by decide +kernel
theorem dX6_init_15 : decode cX6_init 15 = .ok (.newarray .int, 2) := by decide +kernel
theorem dX6_init_17 : decode cX6_init 17 = .ok (.putfield 15, 3) := by decide +kernel
theorem dX6_init_20 : decode cX6_init 20 = .ok (.aload_n 0, 1) := by decide +kernel
theorem dX6_init_21 : decode cX6_init 21 = .ok (.bipush 60, 2) := by decide +kernel
theorem dX6_init_23 : decode cX6_init 23 = .ok (.newarray .int, 2) := by decide +kernel
theorem dX6_init_25 : decode cX6_init 25 = .ok (.putfield 18, 3) := by decide +kernel
theorem dX6_init_28 : decode cX6_init 28 = .ok (.aload_n 0, 1) := by decide +kernel
theorem dX6_init_29 : decode cX6_init 29 = .ok (.sipush 260, 3) := by decide +kernel
theorem dX6_init_32 : decode cX6_init 32 = .ok (.newarray .int, 2) := by decide +kernel
theorem dX6_init_34 : decode cX6_init 34 = .ok (.putfield 21, 3) := by decide +kernel
theorem dX6_init_37 : decode cX6_init 37 = .ok (.aload_n 0, 1) := by decide +kernel
theorem dX6_init_38 : decode cX6_init 38 = .ok (.sipush 260, 3) := by decide +kernel
theorem dX6_init_41 : decode cX6_init 41 = .ok (.newarray .int, 2) := by decide +kernel
theorem dX6_init_43 : decode cX6_init 43 = .ok (.putfield 24, 3) := by decide +kernel
theorem dX6_init_46 : decode cX6_init 46 = .ok (.aload_n 0, 1) := by decide +kernel
theorem dX6_init_47 : decode cX6_init 47 = .ok (.iconst 1, 1) := by decide +kernel
theorem dX6_init_48 : decode cX6_init 48 = .ok (.putfield 27, 3) := by decide +kernel
theorem dX6_init_51 : decode cX6_init 51 = .ok (.aload_n 0, 1) := by decide +kernel
theorem dX6_init_52 : decode cX6_init 52 = .ok (.iconst 0, 1) := by decide +kernel
theorem dX6_init_53 : decode cX6_init 53 = .ok (.putfield 31, 3) := by decide +kernel
theorem dX6_init_56 : decode cX6_init 56 = .ok (.aload_n 0, 1) := by decide +kernel
theorem dX6_init_57 : decode cX6_init 57 = .ok (.aload_n 1, 1) := by decide +kernel
theorem dX6_init_58 : decode cX6_init 58 = .ok (.putfield 34, 3) := by decide +kernel
theorem dX6_init_61 : decode cX6_init 61 = .ok (.aload_n 0, 1) := by decide +kernel
theorem dX6_init_62 : decode cX6_init 62 = .ok (.getfield 15, 3) := by decide +kernel
theorem dX6_init_65 : decode cX6_init 65 = .ok (.iconst (-1), 1) := by decide +kernel
theorem dX6_init_66 : decode cX6_init 66 = .ok (.invokestatic 38, 3) := by decide +kernel
theorem dX6_init_69 : decode cX6_init 69 = .ok (.aload_n 0, 1) := by decide +kernel
theorem dX6_init_70 : decode cX6_init 70 = .ok (.getfield 18, 3) := by decide +kernel
theorem dX6_init_73 : decode cX6_init 73 = .ok (.iconst (-1), 1) := by decide +kernel
theorem dX6_init_74 : decode cX6_init 74 = .ok (.invokestatic 38, 3) := by decide +kernel
theorem dX6_init_77 : decode cX6_init 77 = .ok (.aload_n 0, 1) := by decide +kernel
theorem dX6_init_78 : decode cX6_init 78 = .ok (.getfield 21, 3) := by decide +kernel
theorem dX6_init_81 : decode cX6_init 81 = .ok (.iconst (-1), 1) := by decide +kernel
theorem dX6_init_82 : decode cX6_init 82 = .ok (.invokestatic 38, 3) := by decide +kernel
theorem dX6_init_85 : decode cX6_init 85 = .ok (.aload_n 0, 1) := by decide +kernel
theorem dX6_init_86 : decode cX6_init 86 = .ok (.getfield 24, 3) := by decide +kernel
theorem dX6_init_89 : decode cX6_init 89 = .ok (.iconst (-1), 1) := by decide +kernel
theorem dX6_init_90 : decode cX6_init 90 = .ok (.invokestatic 38, 3) := by decide +kernel
theorem dX6_init_93 : decode cX6_init 93 = .ok (.return_, 1) := by decide +kernel
theorem dX6_addElement_0 : decode cX6_addElement 0 = .ok (.aload_n 0, 1) := by decide +kernel
theorem dX6_addElement_1 : decode cX6_addElement 1 = .ok (.getfield 27, 3) := by decide +kernel
theorem dX6_addElement_4 : decode cX6_addElement 4 = .ok (.istore_n 3, 1) := by decide +kernel
theorem dX6_addElement_5 : decode cX6_addElement 5 = .ok (.iload_n 3, 1) := by decide +kernel
theorem dX6_addElement_6 : decode cX6_addElement 6 = .ok (.bipush 60, 2) := by decide +kernel
theorem dX6_addElement_8 : decode cX6_addElement 8 = .ok (.if_icmp .ge 26, 3) := by decide +kernel
theorem dX6_addElement_11 : decode cX6_addElement 11 = .ok (.aload_n 0, 1) := by decide +kernel
theorem dX6_addElement_12 : decode cX6_addElement 12 = .ok (.getfield 9, 3) := by decide +kernel
theorem dX6_addElement_15 : decode cX6_addElement 15 = .ok (.iload_n 3, 1) := by decide +kernel
theorem dX6_addElement_16 : decode cX6_addElement 16 = .ok (.iload_n 2, 1) := by decide +kernel
theorem dX6_addElement_17 : decode cX6_addElement 17 = .ok (.iastore, 1) := by decide +kernel
theorem dX6_addElement_18 : decode cX6_addElement 18 = .ok (.aload_n 0, 1) := by decide +kernel
theorem dX6_addElement_19 : decode cX6_addElement 19 = .ok (.dup, 1) := by decide +kernel
theorem dX6_addElement_20 : decode cX6_addElement 20 = .ok (.getfield 27, 3) := by decide +kernel
theorem dX6_addElement_23 : decode cX6_addElement 23 = .ok (.iconst 1, 1) := by decide +kernel
theorem dX6_addElement_24 : decode cX6_addElement 24 = .ok (.iadd, 1) := by decide +kernel
theorem dX6_addElement_25 : decode cX6_addElement 25 = .ok (.putfield 27, 3) := by decide +kernel
theorem dX6_addElement_28 : decode cX6_addElement 28 = .ok (.aload_n 0, 1) := by decide +kernel
theorem dX6_addElement_29 : decode cX6_addElement 29 = .ok (.iload_n 1, 1) := by decide +kernel
theorem dX6_addElement_30 : decode cX6_addElement 30 = .ok (.iload_n 3, 1) := by decide +kernel
theorem dX6_addElement_31 : decode cX6_addElement 31 = .ok (.invokevirtual 44, 3) := by decide +kernel
theorem dX6_addElement_34 : decode cX6_addElement 34 = .ok (.iload_n 3, 1) := by decide +kernel
theorem dX6_addElement_35 : decode cX6_addElement 35 = .ok (.ireturn, 1) := by decide +kernel
theorem dX6_addPart_0 : decode cX6_addPart 0 = .ok (.aload_n 0, 1) := by decide +kernel
theorem dX6_addPart_1 : decode cX6_addPart 1 = .ok (.dup, 1) := by decide +kernel
theorem dX6_addPart_2 : decode cX6_addPart 2 = .ok (.getfield 31, 3) := by decide +kernel
theorem dX6_addPart_5 : decode cX6_addPart 5 = .ok (.iconst 1, 1) := by decide +kernel
theorem dX6_addPart_6 : decode cX6_addPart 6 = .ok (.iadd, 1) := by decide +kernel
theorem dX6_addPart_7 : decode cX6_addPart 7 = .ok (.putfield 31, 3) := by decide +kernel
theorem dX6_addPart_10 : decode cX6_addPart 10 = .ok (.aload_n 0, 1) := by decide +kernel
theorem dX6_addPart_11 : decode cX6_addPart 11 = .ok (.iload_n 1, 1) := by decide +kernel
theorem dX6_addPart_12 : decode cX6_addPart 12 = .ok (.bipush 60, 2) := by decide +kernel
theorem dX6_addPart_14 : decode cX6_addPart 14 = .ok (.iload_n 2, 1) := by decide +kernel
theorem dX6_addPart_15 : decode cX6_addPart 15 = .ok (.iadd, 1) := by decide +kernel
theorem dX6_addPart_16 : decode cX6_addPart 16 = .ok (.invokevirtual 44, 3) := by decide +kernel
theorem dX6_addPart_19 : decode cX6_addPart 19 = .ok (.return_, 1) := by decide +kernel
theorem dX6_addKid_0 : decode cX6_addKid 0 = .ok (.aload_n 0, 1) := by decide +kernel
theorem dX6_addKid_1 : decode cX6_addKid 1 = .ok (.getfield 21, 3) := by decide +kernel
theorem dX6_addKid_4 : decode cX6_addKid 4 = .ok (.iload_n 2, 1) := by decide +kernel
theorem dX6_addKid_5 : decode cX6_addKid 5 = .ok (.iload_n 1, 1) := by decide +kernel
theorem dX6_addKid_6 : decode cX6_addKid 6 = .ok (.iastore, 1) := by decide +kernel
theorem dX6_addKid_7 : decode cX6_addKid 7 = .ok (.aload_n 0, 1) := by decide +kernel
theorem dX6_addKid_8 : decode cX6_addKid 8 = .ok (.getfield 18, 3) := by decide +kernel
theorem dX6_addKid_11 : decode cX6_addKid 11 = .ok (.iload_n 1, 1) := by decide +kernel
theorem dX6_addKid_12 : decode cX6_addKid 12 = .ok (.iaload, 1) := by decide +kernel
theorem dX6_addKid_13 : decode cX6_addKid 13 = .ok (.istore_n 3, 1) := by decide +kernel
theorem dX6_addKid_14 : decode cX6_addKid 14 = .ok (.iload_n 3, 1) := by decide +kernel
theorem dX6_addKid_15 : decode cX6_addKid 15 = .ok (.iconst (-1), 1) := by decide +kernel
theorem dX6_addKid_16 : decode cX6_addKid 16 = .ok (.if_icmp .ne 13, 3) := by decide +kernel
theorem dX6_addKid_19 : decode cX6_addKid 19 = .ok (.aload_n 0, 1) := by decide +kernel
theorem dX6_addKid_20 : decode cX6_addKid 20 = .ok (.getfield 15, 3) := by decide +kernel
theorem dX6_addKid_23 : decode cX6_addKid 23 = .ok (.iload_n 1, 1) := by decide +kernel
theorem dX6_addKid_24 : decode cX6_addKid 24 = .ok (.iload_n 2, 1) := by decide +kernel
theorem dX6_addKid_25 : decode cX6_addKid 25 = .ok (.iastore, 1) := by decide +kernel
theorem dX6_addKid_26 : decode cX6_addKid 26 = .ok (.goto 10, 3) := by decide +kernel
theorem dX6_addKid_29 : decode cX6_addKid 29 = .ok (.aload_n 0, 1) := by decide +kernel
theorem dX6_addKid_30 : decode cX6_addKid 30 = .ok (.getfield 24, 3) := by decide +kernel
theorem dX6_addKid_33 : decode cX6_addKid 33 = .ok (.iload_n 3, 1) := by decide +kernel
theorem dX6_addKid_34 : decode cX6_addKid 34 = .ok (.iload_n 2, 1) := by decide +kernel
theorem dX6_addKid_35 : decode cX6_addKid 35 = .ok (.iastore, 1) := by decide +kernel
theorem dX6_addKid_36 : decode cX6_addKid 36 = .ok (.aload_n 0, 1) := by decide +kernel
theorem dX6_addKid_37 : decode cX6_addKid 37 = .ok (.getfield 18, 3) := by decide +kernel
theorem dX6_addKid_40 : decode cX6_addKid 40 = .ok (.iload_n 1, 1) := by decide +kernel
theorem dX6_addKid_41 : decode cX6_addKid 41 = .ok (.iload_n 2, 1) := by decide +kernel
theorem dX6_addKid_42 : decode cX6_addKid 42 = .ok (.iastore, 1) := by decide +kernel
theorem dX6_addKid_43 : decode cX6_addKid 43 = .ok (.return_, 1) := by decide +kernel
theorem dX6_parentOf_0 : decode cX6_parentOf 0 = .ok (.aload_n 0, 1) := by decide +kernel
theorem dX6_parentOf_1 : decode cX6_parentOf 1 = .ok (.getfield 21, 3) := by decide +kernel
theorem dX6_parentOf_4 : decode cX6_parentOf 4 = .ok (.iload_n 1, 1) := by decide +kernel
theorem dX6_parentOf_5 : decode cX6_parentOf 5 = .ok (.iaload, 1) := by decide +kernel
theorem dX6_parentOf_6 : decode cX6_parentOf 6 = .ok (.ireturn, 1) := by decide +kernel
theorem dX6_holderOf_0 : decode cX6_holderOf 0 = .ok (.aload_n 0, 1) := by decide +kernel
theorem dX6_holderOf_1 : decode cX6_holderOf 1 = .ok (.getfield 21, 3) := by decide +kernel
theorem dX6_holderOf_4 : decode cX6_holderOf 4 = .ok (.bipush 60, 2) := by decide +kernel
theorem dX6_holderOf_6 : decode cX6_holderOf 6 = .ok (.iload_n 1, 1) := by decide +kernel
theorem dX6_holderOf_7 : decode cX6_holderOf 7 = .ok (.iadd, 1) := by decide +kernel
theorem dX6_holderOf_8 : decode cX6_holderOf 8 = .ok (.iaload, 1) := by decide +kernel
theorem dX6_holderOf_9 : decode cX6_holderOf 9 = .ok (.ireturn, 1) := by decide +kernel
theorem dX6_hasKids_0 : decode cX6_hasKids 0 = .ok (.aload_n 0, 1) := by decide +kernel
theorem dX6_hasKids_1 : decode cX6_hasKids 1 = .ok (.getfield 15, 3) := by decide +kernel
theorem dX6_hasKids_4 : decode cX6_hasKids 4 = .ok (.iload_n 1, 1) := by decide +kernel
theorem dX6_hasKids_5 : decode cX6_hasKids 5 = .ok (.iaload, 1) := by decide +kernel
theorem dX6_hasKids_6 : decode cX6_hasKids 6 = .ok (.iconst (-1), 1) := by decide +kernel
theorem dX6_hasKids_7 : decode cX6_hasKids 7 = .ok (.if_icmp .eq 7, 3) := by decide +kernel
theorem dX6_hasKids_10 : decode cX6_hasKids 10 = .ok (.iconst 1, 1) := by decide +kernel
theorem dX6_hasKids_11 : decode cX6_hasKids 11 = .ok (.goto 4, 3) := by decide +kernel
theorem dX6_hasKids_14 : decode cX6_hasKids 14 = .ok (.iconst 0, 1) := by decide +kernel
theorem dX6_hasKids_15 : decode cX6_hasKids 15 = .ok (.ireturn, 1) := by decide +kernel
theorem dX6_standardOf_0 : decode cX6_standardOf 0 = .ok (.iload_n 1, 1) := by decide +kernel
theorem dX6_standardOf_1 : decode cX6_standardOf 1 = .ok (.ifCond .lt 11, 3) := by decide +kernel
theorem dX6_standardOf_4 : decode cX6_standardOf 4 = .ok (.iload_n 1, 1) := by decide +kernel
theorem dX6_standardOf_5 : decode cX6_standardOf 5 = .ok (.aload_n 0, 1) := by decide +kernel
theorem dX6_standardOf_6 : decode cX6_standardOf 6 = .ok (.getfield 27, 3) := by decide +kernel
theorem dX6_standardOf_9 : decode cX6_standardOf 9 = .ok (.if_icmp .lt 7, 3) := by decide +kernel
theorem dX6_standardOf_12 : decode cX6_standardOf 12 = .ok (.iconst (-1), 1) := by decide +kernel
theorem dX6_standardOf_13 : decode cX6_standardOf 13 = .ok (.goto 16, 3) := by decide +kernel
theorem dX6_standardOf_16 : decode cX6_standardOf 16 = .ok (.aload_n 0, 1) := by decide +kernel
theorem dX6_standardOf_17 : decode cX6_standardOf 17 = .ok (.getfield 34, 3) := by decide +kernel
theorem dX6_standardOf_20 : decode cX6_standardOf 20 = .ok (.aload_n 0, 1) := by decide +kernel
theorem dX6_standardOf_21 : decode cX6_standardOf 21 = .ok (.getfield 9, 3) := by decide +kernel
theorem dX6_standardOf_24 : decode cX6_standardOf 24 = .ok (.iload_n 1, 1) := by decide +kernel
theorem dX6_standardOf_25 : decode cX6_standardOf 25 = .ok (.iaload, 1) := by decide +kernel
theorem dX6_standardOf_26 : decode cX6_standardOf 26 = .ok (.invokevirtual 48, 3) := by decide +kernel
theorem dX6_standardOf_29 : decode cX6_standardOf 29 = .ok (.ireturn, 1) := by decide +kernel
theorem dX6_isElement_0 : decode cX6_isElement 0 = .ok (.iload_n 0, 1) := by decide +kernel
theorem dX6_isElement_1 : decode cX6_isElement 1 = .ok (.bipush 60, 2) := by decide +kernel
theorem dX6_isElement_3 : decode cX6_isElement 3 = .ok (.if_icmp .ge 7, 3) := by decide +kernel
theorem dX6_isElement_6 : decode cX6_isElement 6 = .ok (.iconst 1, 1) := by decide +kernel
theorem dX6_isElement_7 : decode cX6_isElement 7 = .ok (.goto 4, 3) := by decide +kernel
theorem dX6_isElement_10 : decode cX6_isElement 10 = .ok (.iconst 0, 1) := by decide +kernel
theorem dX6_isElement_11 : decode cX6_isElement 11 = .ok (.ireturn, 1) := by decide +kernel
theorem dX6_codeOf_0 : decode cX6_codeOf 0 = .ok (.iload_n 0, 1) := by decide +kernel
theorem dX6_codeOf_1 : decode cX6_codeOf 1 = .ok (.bipush 60, 2) := by decide +kernel
theorem dX6_codeOf_3 : decode cX6_codeOf 3 = .ok (.isub, 1) := by decide +kernel
theorem dX6_codeOf_4 : decode cX6_codeOf 4 = .ok (.ireturn, 1) := by decide +kernel
theorem dX6_firstIn_0 : decode cX6_firstIn 0 = .ok (.aload_n 0, 1) := by decide +kernel
theorem dX6_firstIn_1 : decode cX6_firstIn 1 = .ok (.iload_n 1, 1) := by decide +kernel
theorem dX6_firstIn_2 : decode cX6_firstIn 2 = .ok (.invokevirtual 54, 3) := by decide +kernel
theorem dX6_firstIn_5 : decode cX6_firstIn 5 = .ok (.ifCond .eq 12, 3) := by decide +kernel
theorem dX6_firstIn_8 : decode cX6_firstIn 8 = .ok (.aload_n 0, 1) := by decide +kernel
theorem dX6_firstIn_9 : decode cX6_firstIn 9 = .ok (.getfield 15, 3) := by decide +kernel
theorem dX6_firstIn_12 : decode cX6_firstIn 12 = .ok (.iload_n 1, 1) := by decide +kernel
theorem dX6_firstIn_13 : decode cX6_firstIn 13 = .ok (.iaload, 1) := by decide +kernel
theorem dX6_firstIn_14 : decode cX6_firstIn 14 = .ok (.goto 8, 3) := by decide +kernel
theorem dX6_firstIn_17 : decode cX6_firstIn 17 = .ok (.aload_n 0, 1) := by decide +kernel
theorem dX6_firstIn_18 : decode cX6_firstIn 18 = .ok (.iload_n 1, 1) := by decide +kernel
theorem dX6_firstIn_19 : decode cX6_firstIn 19 = .ok (.invokevirtual 58, 3) := by decide +kernel
theorem dX6_firstIn_22 : decode cX6_firstIn 22 = .ok (.ireturn, 1) := by decide +kernel
theorem dX6_firstBehind_0 : decode cX6_firstBehind 0 = .ok (.iload_n 1, 1) := by decide +kernel
theorem dX6_firstBehind_1 : decode cX6_firstBehind 1 = .ok (.istore_n 2, 1) := by decide +kernel
theorem dX6_firstBehind_2 : decode cX6_firstBehind 2 = .ok (.iconst 0, 1) := by decide +kernel
theorem dX6_firstBehind_3 : decode cX6_firstBehind 3 = .ok (.istore_n 3, 1) := by decide +kernel
theorem dX6_firstBehind_4 : decode cX6_firstBehind 4 = .ok (.iload_n 3, 1) := by decide +kernel
theorem dX6_firstBehind_5 : decode cX6_firstBehind 5 = .ok (.sipush 260, 3) := by decide +kernel
theorem dX6_firstBehind_8 : decode cX6_firstBehind 8 = .ok (.if_icmp .ge 31, 3) := by decide +kernel
theorem dX6_firstBehind_11 : decode cX6_firstBehind 11 = .ok (.iload_n 2, 1) := by decide +kernel
theorem dX6_firstBehind_12 : decode cX6_firstBehind 12 = .ok (.iconst (-1), 1) := by decide +kernel
theorem dX6_firstBehind_13 : decode cX6_firstBehind 13 = .ok (.if_icmp .eq 26, 3) := by decide +kernel
theorem dX6_firstBehind_16 : decode cX6_firstBehind 16 = .ok (.aload_n 0, 1) := by decide +kernel
theorem dX6_firstBehind_17 : decode cX6_firstBehind 17 = .ok (.getfield 24, 3) := by decide +kernel
theorem dX6_firstBehind_20 : decode cX6_firstBehind 20 = .ok (.iload_n 2, 1) := by decide +kernel
theorem dX6_firstBehind_21 : decode cX6_firstBehind 21 = .ok (.iaload, 1) := by decide +kernel
theorem dX6_firstBehind_22 : decode cX6_firstBehind 22 = .ok (.iconst (-1), 1) := by decide +kernel
theorem dX6_firstBehind_23 : decode cX6_firstBehind 23 = .ok (.if_icmp .ne 16, 3) := by decide +kernel
theorem dX6_firstBehind_26 : decode cX6_firstBehind 26 = .ok (.aload_n 0, 1) := by decide +kernel
theorem dX6_firstBehind_27 : decode cX6_firstBehind 27 = .ok (.getfield 21, 3) := by decide +kernel
theorem dX6_firstBehind_30 : decode cX6_firstBehind 30 = .ok (.iload_n 2, 1) := by decide +kernel
theorem dX6_firstBehind_31 : decode cX6_firstBehind 31 = .ok (.iaload, 1) := by decide +kernel
theorem dX6_firstBehind_32 : decode cX6_firstBehind 32 = .ok (.istore_n 2, 1) := by decide +kernel
theorem dX6_firstBehind_33 : decode cX6_firstBehind 33 = .ok (.iinc 3 1, 3) := by decide +kernel
theorem dX6_firstBehind_36 : decode cX6_firstBehind 36 = .ok (.goto (-32), 3) := by decide +kernel
theorem dX6_firstBehind_39 : decode cX6_firstBehind 39 = .ok (.iload_n 2, 1) := by decide +kernel
theorem dX6_firstBehind_40 : decode cX6_firstBehind 40 = .ok (.iconst (-1), 1) := by decide +kernel
theorem dX6_firstBehind_41 : decode cX6_firstBehind 41 = .ok (.if_icmp .ne 7, 3) := by decide +kernel
theorem dX6_firstBehind_44 : decode cX6_firstBehind 44 = .ok (.iconst (-1), 1) := by decide +kernel
theorem dX6_firstBehind_45 : decode cX6_firstBehind 45 = .ok (.goto 9, 3) := by decide +kernel
theorem dX6_firstBehind_48 : decode cX6_firstBehind 48 = .ok (.aload_n 0, 1) := by decide +kernel
theorem dX6_firstBehind_49 : decode cX6_firstBehind 49 = .ok (.getfield 24, 3) := by decide +kernel
theorem dX6_firstBehind_52 : decode cX6_firstBehind 52 = .ok (.iload_n 2, 1) := by decide +kernel
theorem dX6_firstBehind_53 : decode cX6_firstBehind 53 = .ok (.iaload, 1) := by decide +kernel
theorem dX6_firstBehind_54 : decode cX6_firstBehind 54 = .ok (.ireturn, 1) := by decide +kernel
theorem dJ9_max_7cf53_0 : decode cJ9_max_7cf53 0 = .ok (.iload_n 0, 1) := by decide +kernel
theorem dJ9_max_7cf53_1 : decode cJ9_max_7cf53 1 = .ok (.iload_n 1, 1) := by decide +kernel
theorem dJ9_max_7cf53_2 : decode cJ9_max_7cf53 2 = .ok (.if_icmp .lt 7, 3) := by decide +kernel
theorem dJ9_max_7cf53_5 : decode cJ9_max_7cf53 5 = .ok (.iload_n 0, 1) := by decide +kernel
theorem dJ9_max_7cf53_6 : decode cJ9_max_7cf53 6 = .ok (.goto 4, 3) := by decide +kernel
theorem dJ9_max_7cf53_9 : decode cJ9_max_7cf53 9 = .ok (.iload_n 1, 1) := by decide +kernel
theorem dJ9_max_7cf53_10 : decode cJ9_max_7cf53 10 = .ok (.ireturn, 1) := by decide +kernel
theorem dJ7_fill_53178_0 : decode cJ7_fill_53178 0 = .ok (.iconst 0, 1) := by decide +kernel
theorem dJ7_fill_53178_1 : decode cJ7_fill_53178 1 = .ok (.istore_n 2, 1) := by decide +kernel
theorem dJ7_fill_53178_2 : decode cJ7_fill_53178 2 = .ok (.aload_n 0, 1) := by decide +kernel
theorem dJ7_fill_53178_3 : decode cJ7_fill_53178 3 = .ok (.arraylength, 1) := by decide +kernel
theorem dJ7_fill_53178_4 : decode cJ7_fill_53178 4 = .ok (.istore_n 3, 1) := by decide +kernel
theorem dJ7_fill_53178_5 : decode cJ7_fill_53178 5 = .ok (.iload_n 2, 1) := by decide +kernel
theorem dJ7_fill_53178_6 : decode cJ7_fill_53178 6 = .ok (.iload_n 3, 1) := by decide +kernel
theorem dJ7_fill_53178_7 : decode cJ7_fill_53178 7 = .ok (.if_icmp .ge 13, 3) := by decide +kernel
theorem dJ7_fill_53178_10 : decode cJ7_fill_53178 10 = .ok (.aload_n 0, 1) := by decide +kernel
theorem dJ7_fill_53178_11 : decode cJ7_fill_53178 11 = .ok (.iload_n 2, 1) := by decide +kernel
theorem dJ7_fill_53178_12 : decode cJ7_fill_53178 12 = .ok (.iload_n 1, 1) := by decide +kernel
theorem dJ7_fill_53178_13 : decode cJ7_fill_53178 13 = .ok (.iastore, 1) := by decide +kernel
theorem dJ7_fill_53178_14 : decode cJ7_fill_53178 14 = .ok (.iinc 2 1, 3) := by decide +kernel
theorem dJ7_fill_53178_17 : decode cJ7_fill_53178 17 = .ok (.goto (-12), 3) := by decide +kernel
theorem dJ7_fill_53178_20 : decode cJ7_fill_53178 20 = .ok (.return_, 1) := by decide +kernel
