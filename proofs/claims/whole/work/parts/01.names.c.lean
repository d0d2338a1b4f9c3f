theorem dX9_cocycleViolation_11 : decode cX9_cocycleViolation 11 = .ok (.getfield 62, 3) := by decide +kernel
theorem dX9_cocycleViolation_14 : decode cX9_cocycleViolation 14 = .ok (.invokevirtual 189, 3) := by decide +kernel
theorem dX9_cocycleViolation_17 : decode cX9_cocycleViolation 17 = .ok (.ireturn, 1) := by decide +kernel
theorem dX9_stateSum_0 : decode cX9_stateSum 0 = .ok (.aload_n 0, 1) := by decide +kernel
theorem dX9_stateSum_1 : decode cX9_stateSum 1 = .ok (.getfield 12, 3) := by decide +kernel
theorem dX9_stateSum_4 : decode cX9_stateSum 4 = .ok (.getfield 162, 3) := by decide +kernel
theorem dX9_stateSum_7 : decode cX9_stateSum 7 = .ok (.iload_n 1, 1) := by decide +kernel
theorem dX9_stateSum_8 : decode cX9_stateSum 8 = .ok (.invokevirtual 172, 3) := by decide +kernel
theorem dX9_stateSum_11 : decode cX9_stateSum 11 = .ok (.ifCond .ne 5, 3) := by decide +kernel
theorem dX9_stateSum_14 : decode cX9_stateSum 14 = .ok (.iconst (-1), 1) := by decide +kernel
theorem dX9_stateSum_15 : decode cX9_stateSum 15 = .ok (.ireturn, 1) := by decide +kernel
theorem dX9_stateSum_16 : decode cX9_stateSum 16 = .ok (.aload_n 0, 1) := by decide +kernel
theorem dX9_stateSum_17 : decode cX9_stateSum 17 = .ok (.getfield 12, 3) := by decide +kernel
theorem dX9_stateSum_20 : decode cX9_stateSum 20 = .ok (.getfield 62, 3) := by decide +kernel
theorem dX9_stateSum_23 : decode cX9_stateSum 23 = .ok (.invokevirtual 75, 3) := by decide +kernel
theorem dX9_stateSum_26 : decode cX9_stateSum 26 = .ok (.ifCond .ne 6, 3) := by decide +kernel
theorem dX9_stateSum_29 : decode cX9_stateSum 29 = .ok (.bipush (-2), 2) := by decide +kernel
theorem dX9_stateSum_31 : decode cX9_stateSum 31 = .ok (.ireturn, 1) := by decide +kernel
theorem dX9_stateSum_32 : decode cX9_stateSum 32 = .ok (.aload_n 0, 1) := by decide +kernel
theorem dX9_stateSum_33 : decode cX9_stateSum 33 = .ok (.getfield 26, 3) := by decide +kernel
theorem dX9_stateSum_36 : decode cX9_stateSum 36 = .ok (.aload_n 0, 1) := by decide +kernel
theorem dX9_stateSum_37 : decode cX9_stateSum 37 = .ok (.getfield 12, 3) := by decide +kernel
theorem dX9_stateSum_40 : decode cX9_stateSum 40 = .ok (.iload_n 1, 1) := by decide +kernel
theorem dX9_stateSum_41 : decode cX9_stateSum 41 = .ok (.invokevirtual 192, 3) := by decide +kernel
theorem dX9_stateSum_44 : decode cX9_stateSum 44 = .ok (.ireturn, 1) := by decide +kernel
theorem dX9_undo_0 : decode cX9_undo 0 = .ok (.aload_n 0, 1) := by decide +kernel
theorem dX9_undo_1 : decode cX9_undo 1 = .ok (.getfield 19, 3) := by decide +kernel
theorem dX9_undo_4 : decode cX9_undo 4 = .ok (.getfield 195, 3) := by decide +kernel
theorem dX9_undo_7 : decode cX9_undo 7 = .ok (.ifCond .ne 6, 3) := by decide +kernel
theorem dX9_undo_10 : decode cX9_undo 10 = .ok (.bipush (-4), 2) := by decide +kernel
theorem dX9_undo_12 : decode cX9_undo 12 = .ok (.ireturn, 1) := by decide +kernel
theorem dX9_undo_13 : decode cX9_undo 13 = .ok (.aload_n 0, 1) := by decide +kernel
theorem dX9_undo_14 : decode cX9_undo 14 = .ok (.getfield 19, 3) := by decide +kernel
theorem dX9_undo_17 : decode cX9_undo 17 = .ok (.aload_n 0, 1) := by decide +kernel
theorem dX9_undo_18 : decode cX9_undo 18 = .ok (.getfield 12, 3) := by decide +kernel
theorem dX9_undo_21 : decode cX9_undo 21 = .ok (.invokevirtual 196, 3) := by decide +kernel
theorem dX9_undo_24 : decode cX9_undo 24 = .ok (.aload_n 0, 1) := by decide +kernel
theorem dX9_undo_25 : decode cX9_undo 25 = .ok (.getfield 19, 3) := by decide +kernel
theorem dX9_undo_28 : decode cX9_undo 28 = .ok (.getfield 195, 3) := by decide +kernel
theorem dX9_undo_31 : decode cX9_undo 31 = .ok (.ireturn, 1) := by decide +kernel
theorem dX9_loadLinear_0 : decode cX9_loadLinear 0 = .ok (.iload_n 1, 1) := by decide +kernel
theorem dX9_loadLinear_1 : decode cX9_loadLinear 1 = .ok (.invokestatic 51, 3) := by decide +kernel
theorem dX9_loadLinear_4 : decode cX9_loadLinear 4 = .ok (.ifCond .ne 5, 3) := by decide +kernel
theorem dX9_loadLinear_7 : decode cX9_loadLinear 7 = .ok (.iconst (-1), 1) := by decide +kernel
theorem dX9_loadLinear_8 : decode cX9_loadLinear 8 = .ok (.ireturn, 1) := by decide +kernel
theorem dX9_loadLinear_9 : decode cX9_loadLinear 9 = .ok (.aload_n 0, 1) := by decide +kernel
theorem dX9_loadLinear_10 : decode cX9_loadLinear 10 = .ok (.invokevirtual 59, 3) := by decide +kernel
theorem dX9_loadLinear_13 : decode cX9_loadLinear 13 = .ok (.aload_n 0, 1) := by decide +kernel
theorem dX9_loadLinear_14 : decode cX9_loadLinear 14 = .ok (.getfield 12, 3) := by decide +kernel
theorem dX9_loadLinear_17 : decode cX9_loadLinear 17 = .ok (.getfield 62, 3) := by decide +kernel
theorem dX9_loadLinear_20 : decode cX9_loadLinear 20 = .ok (.iload_n 1, 1) := by decide +kernel
theorem dX9_loadLinear_21 : decode cX9_loadLinear 21 = .ok (.iload_n 2, 1) := by decide +kernel
theorem dX9_loadLinear_22 : decode cX9_loadLinear 22 = .ok (.iload_n 3, 1) := by decide +kernel
theorem dX9_loadLinear_23 : decode cX9_loadLinear 23 = .ok (.iload 4, 2) := by decide +kernel
theorem dX9_loadLinear_25 : decode cX9_loadLinear 25 = .ok (.invokevirtual 199, 3) := by decide +kernel
theorem dX9_loadLinear_28 : decode cX9_loadLinear 28 = .ok (.iload_n 1, 1) := by decide +kernel
theorem dX9_loadLinear_29 : decode cX9_loadLinear 29 = .ok (.ireturn, 1) := by decide +kernel
theorem dX9_beginLoad_0 : decode cX9_beginLoad 0 = .ok (.aload_n 0, 1) := by decide +kernel
theorem dX9_beginLoad_1 : decode cX9_beginLoad 1 = .ok (.getfield 19, 3) := by decide +kernel
theorem dX9_beginLoad_4 : decode cX9_beginLoad 4 = .ok (.aload_n 0, 1) := by decide +kernel
theorem dX9_beginLoad_5 : decode cX9_beginLoad 5 = .ok (.getfield 12, 3) := by decide +kernel
theorem dX9_beginLoad_8 : decode cX9_beginLoad 8 = .ok (.invokevirtual 88, 3) := by decide +kernel
theorem dX9_beginLoad_11 : decode cX9_beginLoad 11 = .ok (.aload_n 0, 1) := by decide +kernel
theorem dX9_beginLoad_12 : decode cX9_beginLoad 12 = .ok (.getfield 12, 3) := by decide +kernel
theorem dX9_beginLoad_15 : decode cX9_beginLoad 15 = .ok (.getfield 162, 3) := by decide +kernel
theorem dX9_beginLoad_18 : decode cX9_beginLoad 18 = .ok (.getfield 173, 3) := by decide +kernel
theorem dX9_beginLoad_21 : decode cX9_beginLoad 21 = .ok (.invokevirtual 203, 3) := by decide +kernel
theorem dX9_beginLoad_24 : decode cX9_beginLoad 24 = .ok (.return_, 1) := by decide +kernel
theorem dX9_isSize_0 : decode cX9_isSize 0 = .ok (.iload_n 0, 1) := by decide +kernel
theorem dX9_isSize_1 : decode cX9_isSize 1 = .ok (.iconst 1, 1) := by decide +kernel
theorem dX9_isSize_2 : decode cX9_isSize 2 = .ok (.if_icmp .lt 13, 3) := by decide +kernel
theorem dX9_isSize_5 : decode cX9_isSize 5 = .ok (.iload_n 0, 1) := by decide +kernel
theorem dX9_isSize_6 : decode cX9_isSize 6 = .ok (.bipush 6, 2) := by decide +kernel
theorem dX9_isSize_8 : decode cX9_isSize 8 = .ok (.if_icmp .gt 7, 3) := by decide +kernel
theorem dX9_isSize_11 : decode cX9_isSize 11 = .ok (.iconst 1, 1) := by decide +kernel
theorem dX9_isSize_12 : decode cX9_isSize 12 = .ok (.goto 4, 3) := by decide +kernel
theorem dX9_isSize_15 : decode cX9_isSize 15 = .ok (.iconst 0, 1) := by decide +kernel
theorem dX9_isSize_16 : decode cX9_isSize 16 = .ok (.ireturn, 1) := by decide +kernel
theorem dX9_haveCommonDivisor_0 : decode cX9_haveCommonDivisor 0 = .ok (.iconst 2, 1) := by decide +kernel
theorem dX9_haveCommonDivisor_1 : decode cX9_haveCommonDivisor 1 = .ok (.istore_n 2, 1) := by decide +kernel
theorem dX9_haveCommonDivisor_2 : decode cX9_haveCommonDivisor 2 = .ok (.iload_n 2, 1) := by decide +kernel
theorem dX9_haveCommonDivisor_3 : decode cX9_haveCommonDivisor 3 = .ok (.iload_n 0, 1) := by decide +kernel
theorem dX9_haveCommonDivisor_4 : decode cX9_haveCommonDivisor 4 = .ok (.if_icmp .gt 23, 3) := by decide +kernel
theorem dX9_haveCommonDivisor_7 : decode cX9_haveCommonDivisor 7 = .ok (.iload_n 0, 1) := by decide +kernel
theorem dX9_haveCommonDivisor_8 : decode cX9_haveCommonDivisor 8 = .ok (.iload_n 2, 1) := by decide +kernel
theorem dX9_haveCommonDivisor_9 : decode cX9_haveCommonDivisor 9 = .ok (.irem, 1) := by decide +kernel
theorem dX9_haveCommonDivisor_10 : decode cX9_haveCommonDivisor 10 = .ok (.ifCond .ne 11, 3) := by decide +kernel
theorem dX9_haveCommonDivisor_13 : decode cX9_haveCommonDivisor 13 = .ok (.iload_n 1, 1) := by decide +kernel
theorem dX9_haveCommonDivisor_14 : decode cX9_haveCommonDivisor 14 = .ok (.iload_n 2, 1) := by decide +kernel
theorem dX9_haveCommonDivisor_15 : decode cX9_haveCommonDivisor 15 = .ok (.irem, 1) := by decide +kernel
theorem dX9_haveCommonDivisor_16 : decode cX9_haveCommonDivisor 16 = .ok (.ifCond .ne 5, 3) := by decide +kernel
theorem dX9_haveCommonDivisor_19 : decode cX9_haveCommonDivisor 19 = .ok (.iconst 1, 1) := by decide +kernel
theorem dX9_haveCommonDivisor_20 : decode cX9_haveCommonDivisor 20 = .ok (.ireturn, 1) := by decide +kernel
theorem dX9_haveCommonDivisor_21 : decode cX9_haveCommonDivisor 21 = .ok (.iinc 2 1, 3) := by decide +kernel
theorem dX9_haveCommonDivisor_24 : decode cX9_haveCommonDivisor 24 = .ok (.goto (-22), 3) := by decide +kernel
theorem dX9_haveCommonDivisor_27 : decode cX9_haveCommonDivisor 27 = .ok (.iconst 0, 1) := by decide +kernel
theorem dX9_haveCommonDivisor_28 : decode cX9_haveCommonDivisor 28 = .ok (.ireturn, 1) := by decide +kernel
theorem dX9_tripleCode_0 : decode cX9_tripleCode 0 = .ok (.bipush 36, 2) := by decide +kernel
theorem dX9_tripleCode_2 : decode cX9_tripleCode 2 = .ok (.iload_n 0, 1) := by decide +kernel
theorem dX9_tripleCode_3 : decode cX9_tripleCode 3 = .ok (.imul, 1) := by decide +kernel
theorem dX9_tripleCode_4 : decode cX9_tripleCode 4 = .ok (.bipush 6, 2) := by decide +kernel
theorem dX9_tripleCode_6 : decode cX9_tripleCode 6 = .ok (.iload_n 1, 1) := by decide +kernel
theorem dX9_tripleCode_7 : decode cX9_tripleCode 7 = .ok (.imul, 1) := by decide +kernel
theorem dX9_tripleCode_8 : decode cX9_tripleCode 8 = .ok (.iadd, 1) := by decide +kernel
theorem dX9_tripleCode_9 : decode cX9_tripleCode 9 = .ok (.iload_n 2, 1) := by decide +kernel
theorem dX9_tripleCode_10 : decode cX9_tripleCode 10 = .ok (.iadd, 1) := by decide +kernel
theorem dX9_tripleCode_11 : decode cX9_tripleCode 11 = .ok (.ireturn, 1) := by decide +kernel
theorem dX10_init_0 : decode cX10_init 0 = .ok (.aload_n 0, 1) := by decide +kernel
theorem dX10_init_1 : decode cX10_init 1 = .ok (.invokespecial 1, 3) := by decide +kernel
theorem dX10_init_4 : decode cX10_init 4 = .ok (.aload_n 0, 1) := by decide +kernel
theorem dX10_init_5 : decode cX10_init 5 = .ok (.bipush 88, 2) := by decide +kernel
theorem dX10_init_7 : decode cX10_init 7 = .ok (.newarray .int, 2) := by decide +kernel
theorem dX10_init_9 : decode cX10_init 9 = .ok (.putfield 7, 3) := by decide +kernel
theorem dX10_init_12 : decode cX10_init 12 = .ok (.aload_n 0, 1) := by decide +kernel
theorem dX10_init_13 : decode cX10_init 13 = .ok (.sipush 440, 3) := by decide +kernel
theorem dX10_init_16 : decode cX10_init 16 = .ok (.newarray .int, 2) := by decide +kernel
theorem dX10_init_18 : decode cX10_init 18 = .ok (.putfield 13, 3) := by decide +kernel
theorem dX10_init_21 : decode cX10_init 21 = .ok (.aload_n 0, 1) := by decide +kernel
theorem dX10_init_22 : decode cX10_init 22 = .ok (.bipush 36, 2) := by decide +kernel
theorem dX10_init_24 : decode cX10_init 24 = .ok (.newarray .int, 2) := by decide +kernel
theorem dX10_init_26 : decode cX10_init 26 = .ok (.putfield 16, 3) := by decide +kernel
theorem dX10_init_29 : decode cX10_init 29 = .ok (.aload_n 0, 1) := by decide +kernel
theorem dX10_init_30 : decode cX10_init 30 = .ok (.bipush 6, 2) := by decide +kernel
theorem dX10_init_32 : decode cX10_init 32 = .ok (.newarray .int, 2) := by decide +kernel
theorem dX10_init_34 : decode cX10_init 34 = .ok (.putfield 19, 3) := by decide +kernel
theorem dX10_init_37 : decode cX10_init 37 = .ok (.aload_n 0, 1) := by decide +kernel
theorem dX10_init_38 : decode cX10_init 38 = .ok (.iconst 4, 1) := by decide +kernel
theorem dX10_init_39 : decode cX10_init 39 = .ok (.newarray .int, 2) := by decide +kernel
theorem dX10_init_41 : decode cX10_init 41 = .ok (.putfield 22, 3) := by decide +kernel
theorem dX10_init_44 : decode cX10_init 44 = .ok (.aload_n 0, 1) := by decide +kernel
theorem dX10_init_45 : decode cX10_init 45 = .ok (.bipush 6, 2) := by decide +kernel
theorem dX10_init_47 : decode cX10_init 47 = .ok (.newarray .int, 2) := by decide +kernel
theorem dX10_init_49 : decode cX10_init 49 = .ok (.putfield 25, 3) := by decide +kernel
theorem dX10_init_52 : decode cX10_init 52 = .ok (.aload_n 0, 1) := by decide +kernel
theorem dX10_init_53 : decode cX10_init 53 = .ok (.bipush 18, 2) := by decide +kernel
theorem dX10_init_55 : decode cX10_init 55 = .ok (.newarray .int, 2) := by decide +kernel
theorem dX10_init_57 : decode cX10_init 57 = .ok (.putfield 28, 3) := by decide +kernel
theorem dX10_init_60 : decode cX10_init 60 = .ok (.aload_n 0, 1) := by decide +kernel
theorem dX10_init_61 : decode cX10_init 61 = .ok (.sipush 720, 3) := by decide +kernel
theorem dX10_init_64 : decode cX10_init 64 = .ok (.newarray .int, 2) := by decide +kernel
theorem dX10_init_66 : decode cX10_init 66 = .ok (.putfield 31, 3) := by decide +kernel
theorem dX10_init_69 : decode cX10_init 69 = .ok (.aload_n 0, 1) := by decide +kernel
theorem dX10_init_70 : decode cX10_init 70 = .ok (.sipush 4320, 3) := by decide +kernel
theorem dX10_init_73 : decode cX10_init 73 = .ok (.newarray .int, 2) := by decide +kernel
theorem dX10_init_75 : decode cX10_init 75 = .ok (.putfield 34, 3) := by decide +kernel
theorem dX10_init_78 : decode cX10_init 78 = .ok (.aload_n 0, 1) := by decide +kernel
theorem dX10_init_79 : decode cX10_init 79 = .ok (.getfield 7, 3) := by decide +kernel
theorem dX10_init_82 : decode cX10_init 82 = .ok (.bipush 84, 2) := by decide +kernel
theorem dX10_init_84 : decode cX10_init 84 = .ok (.iconst 3, 1) := by decide +kernel
theorem dX10_init_85 : decode cX10_init 85 = .ok (.iastore, 1) := by decide +kernel
theorem dX10_init_86 : decode cX10_init 86 = .ok (.aload_n 0, 1) := by decide +kernel
theorem dX10_init_87 : decode cX10_init 87 = .ok (.getfield 7, 3) := by decide +kernel
theorem dX10_init_90 : decode cX10_init 90 = .ok (.bipush 85, 2) := by decide +kernel
theorem dX10_init_92 : decode cX10_init 92 = .ok (.iconst 2, 1) := by decide +kernel
theorem dX10_init_93 : decode cX10_init 93 = .ok (.iastore, 1) := by decide +kernel
theorem dX10_init_94 : decode cX10_init 94 = .ok (.aload_n 0, 1) := by decide +kernel
theorem dX10_init_95 : decode cX10_init 95 = .ok (.getfield 7, 3) := by decide +kernel
theorem dX10_init_98 : decode cX10_init 98 = .ok (.bipush 86, 2) := by decide +kernel
theorem dX10_init_100 : decode cX10_init 100 = .ok (.iconst 3, 1) := by decide +kernel
theorem dX10_init_101 : decode cX10_init 101 = .ok (.iastore, 1) := by decide +kernel
theorem dX10_init_102 : decode cX10_init 102 = .ok (.aload_n 0, 1) := by decide +kernel
theorem dX10_init_103 : decode cX10_init 103 = .ok (.getfield 7, 3) := by decide +kernel
theorem dX10_init_106 : decode cX10_init 106 = .ok (.bipush 87, 2) := by decide +kernel
theorem dX10_init_108 : decode cX10_init 108 = .ok (.iconst 3, 1) := by decide +kernel
theorem dX10_init_109 : decode cX10_init 109 = .ok (.iastore, 1) := by decide +kernel
theorem dX10_init_110 : decode cX10_init 110 = .ok (.iconst 0, 1) := by decide +kernel
theorem dX10_init_111 : decode cX10_init 111 = .ok (.istore_n 1, 1) := by decide +kernel
theorem dX10_init_112 : decode cX10_init 112 = .ok (.iload_n 1, 1) := by decide +kernel
theorem dX10_init_113 : decode cX10_init 113 = .ok (.iconst 3, 1) := by decide +kernel
theorem dX10_init_114 : decode cX10_init 114 = .ok (.if_icmp .ge 19, 3) := by decide +kernel
theorem dX10_init_117 : decode cX10_init 117 = .ok (.aload_n 0, 1) := by decide +kernel
theorem dX10_init_118 : decode cX10_init 118 = .ok (.getfield 7, 3) := by decide +kernel
theorem dX10_init_121 : decode cX10_init 121 = .ok (.bipush 72, 2) := by decide +kernel
theorem dX10_init_123 : decode cX10_init 123 = .ok (.iload_n 1, 1) := by decide +kernel
theorem dX10_init_124 : decode cX10_init 124 = .ok (.iadd, 1) := by decide +kernel
theorem dX10_init_125 : decode cX10_init 125 = .ok (.iconst 1, 1) := by decide +kernel
theorem dX10_init_126 : decode cX10_init 126 = .ok (.iastore, 1) := by decide +kernel
theorem dX10_init_127 : decode cX10_init 127 = .ok (.iinc 1 1, 3) := by decide +kernel
theorem dX10_init_130 : decode cX10_init 130 = .ok (.goto (-18), 3) := by decide +kernel
theorem dX10_init_133 : decode cX10_init 133 = .ok (.iconst 0, 1) := by decide +kernel
theorem dX10_init_134 : decode cX10_init 134 = .ok (.istore_n 1, 1) := by decide +kernel
theorem dX10_init_135 : decode cX10_init 135 = .ok (.iload_n 1, 1) := by decide +kernel
theorem dX10_init_136 : decode cX10_init 136 = .ok (.iconst 3, 1) := by decide +kernel
theorem dX10_init_137 : decode cX10_init 137 = .ok (.if_icmp .ge 42, 3) := by decide +kernel
theorem dX10_init_140 : decode cX10_init 140 = .ok (.iconst 0, 1) := by decide +kernel
theorem dX10_init_141 : decode cX10_init 141 = .ok (.istore_n 2, 1) := by decide +kernel
theorem dX10_init_142 : decode cX10_init 142 = .ok (.iload_n 2, 1) := by decide +kernel
theorem dX10_init_143 : decode cX10_init 143 = .ok (.iconst 3, 1) := by decide +kernel
theorem dX10_init_144 : decode cX10_init 144 = .ok (.if_icmp .ge 29, 3) := by decide +kernel
theorem dX10_init_147 : decode cX10_init 147 = .ok (.aload_n 0, 1) := by decide +kernel
theorem dX10_init_148 : decode cX10_init 148 = .ok (.getfield 7, 3) := by decide +kernel
theorem dX10_init_151 : decode cX10_init 151 = .ok (.bipush 6, 2) := by decide +kernel
theorem dX10_init_153 : decode cX10_init 153 = .ok (.iload_n 1, 1) := by decide +kernel
theorem dX10_init_154 : decode cX10_init 154 = .ok (.imul, 1) := by decide +kernel
theorem dX10_init_155 : decode cX10_init 155 = .ok (.iload_n 2, 1) := by decide +kernel
theorem dX10_init_156 : decode cX10_init 156 = .ok (.iadd, 1) := by decide +kernel
theorem dX10_init_157 : decode cX10_init 157 = .ok (.iconst 2, 1) := by decide +kernel
theorem dX10_init_158 : decode cX10_init 158 = .ok (.iload_n 2, 1) := by decide +kernel
theorem dX10_init_159 : decode cX10_init 159 = .ok (.imul, 1) := by decide +kernel
theorem dX10_init_160 : decode cX10_init 160 = .ok (.iload_n 1, 1) := by decide +kernel
theorem dX10_init_161 : decode cX10_init 161 = .ok (.isub, 1) := by decide +kernel
theorem dX10_init_162 : decode cX10_init 162 = .ok (.iconst 3, 1) := by decide +kernel
theorem dX10_init_163 : decode cX10_init 163 = .ok (.iadd, 1) := by decide +kernel
theorem dX10_init_164 : decode cX10_init 164 = .ok (.iconst 3, 1) := by decide +kernel
theorem dX10_init_165 : decode cX10_init 165 = .ok (.irem, 1) := by decide +kernel
theorem dX10_init_166 : decode cX10_init 166 = .ok (.iastore, 1) := by decide +kernel
theorem dX10_init_167 : decode cX10_init 167 = .ok (.iinc 2 1, 3) := by decide +kernel
theorem dX10_init_170 : decode cX10_init 170 = .ok (.goto (-28), 3) := by decide +kernel
theorem dX10_init_173 : decode cX10_init 173 = .ok (.iinc 1 1, 3) := by decide +kernel
theorem dX10_init_176 : decode cX10_init 176 = .ok (.goto (-41), 3) := by decide +kernel
theorem dX10_init_179 : decode cX10_init 179 = .ok (.return_, 1) := by decide +kernel
theorem dX10_in_0 : decode cX10_in 0 = .ok (.iload_n 0, 1) := by decide +kernel
theorem dX10_in_1 : decode cX10_in 1 = .ok (.iload_n 1, 1) := by decide +kernel
theorem dX10_in_2 : decode cX10_in 2 = .ok (.if_icmp .lt 12, 3) := by decide +kernel
theorem dX10_in_5 : decode cX10_in 5 = .ok (.iload_n 0, 1) := by decide +kernel
theorem dX10_in_6 : decode cX10_in 6 = .ok (.iload_n 2, 1) := by decide +kernel
theorem dX10_in_7 : decode cX10_in 7 = .ok (.if_icmp .gt 7, 3) := by decide +kernel
theorem dX10_in_10 : decode cX10_in 10 = .ok (.iconst 1, 1) := by decide +kernel
theorem dX10_in_11 : decode cX10_in 11 = .ok (.goto 4, 3) := by decide +kernel
theorem dX10_in_14 : decode cX10_in 14 = .ok (.iconst 0, 1) := by decide +kernel
theorem dX10_in_15 : decode cX10_in 15 = .ok (.ireturn, 1) := by decide +kernel
theorem dX10_isElement_0 : decode cX10_isElement 0 = .ok (.iload_n 1, 1) := by decide +kernel
theorem dX10_isElement_1 : decode cX10_isElement 1 = .ok (.iconst 0, 1) := by decide +kernel
theorem dX10_isElement_2 : decode cX10_isElement 2 = .ok (.aload_n 0, 1) := by decide +kernel
theorem dX10_isElement_3 : decode cX10_isElement 3 = .ok (.getfield 7, 3) := by decide +kernel
theorem dX10_isElement_6 : decode cX10_isElement 6 = .ok (.bipush 84, 2) := by decide +kernel
theorem dX10_isElement_8 : decode cX10_isElement 8 = .ok (.iaload, 1) := by decide +kernel
theorem dX10_isElement_9 : decode cX10_isElement 9 = .ok (.iconst 1, 1) := by decide +kernel
theorem dX10_isElement_10 : decode cX10_isElement 10 = .ok (.isub, 1) := by decide +kernel
theorem dX10_isElement_11 : decode cX10_isElement 11 = .ok (.invokestatic 37, 3) := by decide +kernel
theorem dX10_isElement_14 : decode cX10_isElement 14 = .ok (.ireturn, 1) := by decide +kernel
theorem dX10_edit_0 : decode cX10_edit 0 = .ok (.aload_n 0, 1) := by decide +kernel
theorem dX10_edit_1 : decode cX10_edit 1 = .ok (.getfield 41, 3) := by decide +kernel
theorem dX10_edit_4 : decode cX10_edit 4 = .ok (.iconst 5, 1) := by decide +kernel
theorem dX10_edit_5 : decode cX10_edit 5 = .ok (.if_icmp .ne 43, 3) := by decide +kernel
theorem dX10_edit_8 : decode cX10_edit 8 = .ok (.iconst 0, 1) := by decide +kernel
theorem dX10_edit_9 : decode cX10_edit 9 = .ok (.istore_n 1, 1) := by decide +kernel
theorem dX10_edit_10 : decode cX10_edit 10 = .ok (.iload_n 1, 1) := by decide +kernel
theorem dX10_edit_11 : decode cX10_edit 11 = .ok (.sipush 352, 3) := by decide +kernel
theorem dX10_edit_14 : decode cX10_edit 14 = .ok (.if_icmp .ge 24, 3) := by decide +kernel
theorem dX10_edit_17 : decode cX10_edit 17 = .ok (.aload_n 0, 1) := by decide +kernel
theorem dX10_edit_18 : decode cX10_edit 18 = .ok (.getfield 13, 3) := by decide +kernel
theorem dX10_edit_21 : decode cX10_edit 21 = .ok (.iload_n 1, 1) := by decide +kernel
theorem dX10_edit_22 : decode cX10_edit 22 = .ok (.aload_n 0, 1) := by decide +kernel
theorem dX10_edit_23 : decode cX10_edit 23 = .ok (.getfield 13, 3) := by decide +kernel
theorem dX10_edit_26 : decode cX10_edit 26 = .ok (.iload_n 1, 1) := by decide +kernel
theorem dX10_edit_27 : decode cX10_edit 27 = .ok (.bipush 88, 2) := by decide +kernel
theorem dX10_edit_29 : decode cX10_edit 29 = .ok (.iadd, 1) := by decide +kernel
theorem dX10_edit_30 : decode cX10_edit 30 = .ok (.iaload, 1) := by decide +kernel
theorem dX10_edit_31 : decode cX10_edit 31 = .ok (.iastore, 1) := by decide +kernel
theorem dX10_edit_32 : decode cX10_edit 32 = .ok (.iinc 1 1, 3) := by decide +kernel
theorem dX10_edit_35 : decode cX10_edit 35 = .ok (.goto (-25), 3) := by decide +kernel
theorem dX10_edit_38 : decode cX10_edit 38 = .ok (.aload_n 0, 1) := by decide +kernel
theorem dX10_edit_39 : decode cX10_edit 39 = .ok (.dup, 1) := by decide +kernel
theorem dX10_edit_40 : decode cX10_edit 40 = .ok (.getfield 41, 3) := by decide +kernel
theorem dX10_edit_43 : decode cX10_edit 43 = .ok (.iconst 1, 1) := by decide +kernel
theorem dX10_edit_44 : decode cX10_edit 44 = .ok (.isub, 1) := by decide +kernel
theorem dX10_edit_45 : decode cX10_edit 45 = .ok (.putfield 41, 3) := by decide +kernel
theorem dX10_edit_48 : decode cX10_edit 48 = .ok (.iconst 0, 1) := by decide +kernel
theorem dX10_edit_49 : decode cX10_edit 49 = .ok (.istore_n 1, 1) := by decide +kernel
theorem dX10_edit_50 : decode cX10_edit 50 = .ok (.iload_n 1, 1) := by decide +kernel
theorem dX10_edit_51 : decode cX10_edit 51 = .ok (.bipush 88, 2) := by decide +kernel
theorem dX10_edit_53 : decode cX10_edit 53 = .ok (.if_icmp .ge 29, 3) := by decide +kernel
theorem dX10_edit_56 : decode cX10_edit 56 = .ok (.aload_n 0, 1) := by decide +kernel
theorem dX10_edit_57 : decode cX10_edit 57 = .ok (.getfield 13, 3) := by decide +kernel
theorem dX10_edit_60 : decode cX10_edit 60 = .ok (.bipush 88, 2) := by decide +kernel
theorem dX10_edit_62 : decode cX10_edit 62 = .ok (.aload_n 0, 1) := by decide +kernel
theorem dX10_edit_63 : decode cX10_edit 63 = .ok (.getfield 41, 3) := by decide +kernel
theorem dX10_edit_66 : decode cX10_edit 66 = .ok (.imul, 1) := by decide +kernel
theorem dX10_edit_67 : decode cX10_edit 67 = .ok (.iload_n 1, 1) := by decide +kernel
theorem dX10_edit_68 : decode cX10_edit 68 = .ok (.iadd, 1) := by decide +kernel
theorem dX10_edit_69 : decode cX10_edit 69 = .ok (.aload_n 0, 1) := by decide +kernel
theorem dX10_edit_70 : decode cX10_edit 70 = .ok (.getfield 7, 3) := by decide +kernel
theorem dX10_edit_73 : decode cX10_edit 73 = .ok (.iload_n 1, 1) := by decide +kernel
theorem dX10_edit_74 : decode cX10_edit 74 = .ok (.iaload, 1) := by decide +kernel
theorem dX10_edit_75 : decode cX10_edit 75 = .ok (.iastore, 1) := by decide +kernel
theorem dX10_edit_76 : decode cX10_edit 76 = .ok (.iinc 1 1, 3) := by decide +kernel
theorem dX10_edit_79 : decode cX10_edit 79 = .ok (.goto (-29), 3) := by decide +kernel
theorem dX10_edit_82 : decode cX10_edit 82 = .ok (.aload_n 0, 1) := by decide +kernel
theorem dX10_edit_83 : decode cX10_edit 83 = .ok (.dup, 1) := by decide +kernel
theorem dX10_edit_84 : decode cX10_edit 84 = .ok (.getfield 41, 3) := by decide +kernel
theorem dX10_edit_87 : decode cX10_edit 87 = .ok (.iconst 1, 1) := by decide +kernel
theorem dX10_edit_88 : decode cX10_edit 88 = .ok (.iadd, 1) := by decide +kernel
theorem dX10_edit_89 : decode cX10_edit 89 = .ok (.putfield 41, 3) := by decide +kernel
theorem dX10_edit_92 : decode cX10_edit 92 = .ok (.return_, 1) := by decide +kernel
theorem dX10_undo_0 : decode cX10_undo 0 = .ok (.aload_n 0, 1) := by decide +kernel
theorem dX10_undo_1 : decode cX10_undo 1 = .ok (.getfield 41, 3) := by decide +kernel
theorem dX10_undo_4 : decode cX10_undo 4 = .ok (.ifCond .ne 6, 3) := by decide +kernel
theorem dX10_undo_7 : decode cX10_undo 7 = .ok (.bipush (-4), 2) := by decide +kernel
theorem dX10_undo_9 : decode cX10_undo 9 = .ok (.ireturn, 1) := by decide +kernel
theorem dX10_undo_10 : decode cX10_undo 10 = .ok (.aload_n 0, 1) := by decide +kernel
theorem dX10_undo_11 : decode cX10_undo 11 = .ok (.dup, 1) := by decide +kernel
theorem dX10_undo_12 : decode cX10_undo 12 = .ok (.getfield 41, 3) := by decide +kernel
theorem dX10_undo_15 : decode cX10_undo 15 = .ok (.iconst 1, 1) := by decide +kernel
theorem dX10_undo_16 : decode cX10_undo 16 = .ok (.isub, 1) := by decide +kernel
theorem dX10_undo_17 : decode cX10_undo 17 = .ok (.putfield 41, 3) := by decide +kernel
theorem dX10_undo_20 : decode cX10_undo 20 = .ok (.iconst 0, 1) := by decide +kernel
theorem dX10_undo_21 : decode cX10_undo 21 = .ok (.istore_n 1, 1) := by decide +kernel
theorem dX10_undo_22 : decode cX10_undo 22 = .ok (.iload_n 1, 1) := by decide +kernel
theorem dX10_undo_23 : decode cX10_undo 23 = .ok (.bipush 88, 2) := by decide +kernel
theorem dX10_undo_25 : decode cX10_undo 25 = .ok (.if_icmp .ge 29, 3) := by decide +kernel
theorem dX10_undo_28 : decode cX10_undo 28 = .ok (.aload_n 0, 1) := by decide +kernel
theorem dX10_undo_29 : decode cX10_undo 29 = .ok (.getfield 7, 3) := by decide +kernel
theorem dX10_undo_32 : decode cX10_undo 32 = .ok (.iload_n 1, 1) := by decide +kernel
theorem dX10_undo_33 : decode cX10_undo 33 = .ok (.aload_n 0, 1) := by decide +kernel
theorem dX10_undo_34 : decode cX10_undo 34 = .ok (.getfield 13, 3) := by decide +kernel
theorem dX10_undo_37 : decode cX10_undo 37 = .ok (.bipush 88, 2) := by decide +kernel
theorem dX10_undo_39 : decode cX10_undo 39 = .ok (.aload_n 0, 1) := by decide +kernel
theorem dX10_undo_40 : decode cX10_undo 40 = .ok (.getfield 41, 3) := by decide +kernel
theorem dX10_undo_43 : decode cX10_undo 43 = .ok (.imul, 1) := by decide +kernel
theorem dX10_undo_44 : decode cX10_undo 44 = .ok (.iload_n 1, 1) := by decide +kernel
theorem dX10_undo_45 : decode cX10_undo 45 = .ok (.iadd, 1) := by decide +kernel
theorem dX10_undo_46 : decode cX10_undo 46 = .ok (.iaload, 1) := by decide +kernel
theorem dX10_undo_47 : decode cX10_undo 47 = .ok (.iastore, 1) := by decide +kernel
theorem dX10_undo_48 : decode cX10_undo 48 = .ok (.iinc 1 1, 3) := by decide +kernel
theorem dX10_undo_51 : decode cX10_undo 51 = .ok (.goto (-29), 3) := by decide +kernel
theorem dX10_undo_54 : decode cX10_undo 54 = .ok (.aload_n 0, 1) := by decide +kernel
theorem dX10_undo_55 : decode cX10_undo 55 = .ok (.getfield 41, 3) := by decide +kernel
theorem dX10_undo_58 : decode cX10_undo 58 = .ok (.ireturn, 1) := by decide +kernel
theorem dX10_loads_0 : decode cX10_loads 0 = .ok (.aload_n 0, 1) := by decide +kernel
theorem dX10_loads_1 : decode cX10_loads 1 = .ok (.invokevirtual 45, 3) := by decide +kernel
theorem dX10_loads_4 : decode cX10_loads 4 = .ok (.aload_n 0, 1) := by decide +kernel
theorem dX10_loads_5 : decode cX10_loads 5 = .ok (.getfield 7, 3) := by decide +kernel
theorem dX10_loads_8 : decode cX10_loads 8 = .ok (.bipush 84, 2) := by decide +kernel
theorem dX10_loads_10 : decode cX10_loads 10 = .ok (.iload_n 1, 1) := by decide +kernel
theorem dX10_loads_11 : decode cX10_loads 11 = .ok (.iastore, 1) := by decide +kernel
theorem dX10_loads_12 : decode cX10_loads 12 = .ok (.iconst 0, 1) := by decide +kernel
theorem dX10_loads_13 : decode cX10_loads 13 = .ok (.istore_n 2, 1) := by decide +kernel
theorem dX10_loads_14 : decode cX10_loads 14 = .ok (.iload_n 2, 1) := by decide +kernel
theorem dX10_loads_15 : decode cX10_loads 15 = .ok (.bipush 36, 2) := by decide +kernel
theorem dX10_loads_17 : decode cX10_loads 17 = .ok (.if_icmp .ge 26, 3) := by decide +kernel
theorem dX10_loads_20 : decode cX10_loads 20 = .ok (.aload_n 0, 1) := by decide +kernel
theorem dX10_loads_21 : decode cX10_loads 21 = .ok (.getfield 7, 3) := by decide +kernel
theorem dX10_loads_24 : decode cX10_loads 24 = .ok (.iload_n 2, 1) := by decide +kernel
theorem dX10_loads_25 : decode cX10_loads 25 = .ok (.iconst 0, 1) := by decide +kernel
theorem dX10_loads_26 : decode cX10_loads 26 = .ok (.iastore, 1) := by decide +kernel
theorem dX10_loads_27 : decode cX10_loads 27 = .ok (.aload_n 0, 1) := by decide +kernel
theorem dX10_loads_28 : decode cX10_loads 28 = .ok (.getfield 7, 3) := by decide +kernel
theorem dX10_loads_31 : decode cX10_loads 31 = .ok (.bipush 36, 2) := by decide +kernel
theorem dX10_loads_33 : decode cX10_loads 33 = .ok (.iload_n 2, 1) := by decide +kernel
theorem dX10_loads_34 : decode cX10_loads 34 = .ok (.iadd, 1) := by decide +kernel
theorem dX10_loads_35 : decode cX10_loads 35 = .ok (.iconst 0, 1) := by decide +kernel
theorem dX10_loads_36 : decode cX10_loads 36 = .ok (.iastore, 1) := by decide +kernel
theorem dX10_loads_37 : decode cX10_loads 37 = .ok (.iinc 2 1, 3) := by decide +kernel
theorem dX10_loads_40 : decode cX10_loads 40 = .ok (.goto (-26), 3) := by decide +kernel
theorem dX10_loads_43 : decode cX10_loads 43 = .ok (.return_, 1) := by decide +kernel
theorem dX10_loadTrivial_0 : decode cX10_loadTrivial 0 = .ok (.iload_n 1, 1) := by decide +kernel
theorem dX10_loadTrivial_1 : decode cX10_loadTrivial 1 = .ok (.iconst 1, 1) := by decide +kernel
theorem dX10_loadTrivial_2 : decode cX10_loadTrivial 2 = .ok (.bipush 6, 2) := by decide +kernel
theorem dX10_loadTrivial_4 : decode cX10_loadTrivial 4 = .ok (.invokestatic 37, 3) := by decide +kernel
theorem dX10_loadTrivial_7 : decode cX10_loadTrivial 7 = .ok (.ifCond .ne 5, 3) := by decide +kernel
theorem dX10_loadTrivial_10 : decode cX10_loadTrivial 10 = .ok (.iconst (-1), 1) := by decide +kernel
theorem dX10_loadTrivial_11 : decode cX10_loadTrivial 11 = .ok (.ireturn, 1) := by decide +kernel
theorem dX10_loadTrivial_12 : decode cX10_loadTrivial 12 = .ok (.aload_n 0, 1) := by decide +kernel
theorem dX10_loadTrivial_13 : decode cX10_loadTrivial 13 = .ok (.iload_n 1, 1) := by decide +kernel
theorem dX10_loadTrivial_14 : decode cX10_loadTrivial 14 = .ok (.invokevirtual 48, 3) := by decide +kernel
theorem dX10_loadTrivial_17 : decode cX10_loadTrivial 17 = .ok (.iconst 0, 1) := by decide +kernel
theorem dX10_loadTrivial_18 : decode cX10_loadTrivial 18 = .ok (.istore_n 2, 1) := by decide +kernel
theorem dX10_loadTrivial_19 : decode cX10_loadTrivial 19 = .ok (.iload_n 2, 1) := by decide +kernel
theorem dX10_loadTrivial_20 : decode cX10_loadTrivial 20 = .ok (.bipush 36, 2) := by decide +kernel
theorem dX10_loadTrivial_22 : decode cX10_loadTrivial 22 = .ok (.if_icmp .ge 39, 3) := by decide +kernel
theorem dX10_loadTrivial_25 : decode cX10_loadTrivial 25 = .ok (.aload_n 0, 1) := by decide +kernel
theorem dX10_loadTrivial_26 : decode cX10_loadTrivial 26 = .ok (.getfield 7, 3) := by decide +kernel
theorem dX10_loadTrivial_29 : decode cX10_loadTrivial 29 = .ok (.iload_n 2, 1) := by decide +kernel
theorem dX10_loadTrivial_30 : decode cX10_loadTrivial 30 = .ok (.iload_n 2, 1) := by decide +kernel
theorem dX10_loadTrivial_31 : decode cX10_loadTrivial 31 = .ok (.bipush 6, 2) := by decide +kernel
theorem dX10_loadTrivial_33 : decode cX10_loadTrivial 33 = .ok (.idiv, 1) := by decide +kernel
theorem dX10_loadTrivial_34 : decode cX10_loadTrivial 34 = .ok (.iload_n 1, 1) := by decide +kernel
theorem dX10_loadTrivial_35 : decode cX10_loadTrivial 35 = .ok (.if_icmp .ge 18, 3) := by decide +kernel
theorem dX10_loadTrivial_38 : decode cX10_loadTrivial 38 = .ok (.iload_n 2, 1) := by decide +kernel
theorem dX10_loadTrivial_39 : decode cX10_loadTrivial 39 = .ok (.bipush 6, 2) := by decide +kernel
theorem dX10_loadTrivial_41 : decode cX10_loadTrivial 41 = .ok (.irem, 1) := by decide +kernel
theorem dX10_loadTrivial_42 : decode cX10_loadTrivial 42 = .ok (.iload_n 1, 1) := by decide +kernel
theorem dX10_loadTrivial_43 : decode cX10_loadTrivial 43 = .ok (.if_icmp .ge 10, 3) := by decide +kernel
theorem dX10_loadTrivial_46 : decode cX10_loadTrivial 46 = .ok (.iload_n 2, 1) := by decide +kernel
theorem dX10_loadTrivial_47 : decode cX10_loadTrivial 47 = .ok (.bipush 6, 2) := by decide +kernel
theorem dX10_loadTrivial_49 : decode cX10_loadTrivial 49 = .ok (.idiv, 1) := by decide +kernel
theorem dX10_loadTrivial_50 : decode cX10_loadTrivial 50 = .ok (.goto 4, 3) := by decide +kernel
theorem dX10_loadTrivial_53 : decode cX10_loadTrivial 53 = .ok (.iconst 0, 1) := by decide +kernel
theorem dX10_loadTrivial_54 : decode cX10_loadTrivial 54 = .ok (.iastore, 1) := by decide +kernel
theorem dX10_loadTrivial_55 : decode cX10_loadTrivial 55 = .ok (.iinc 2 1, 3) := by decide +kernel
theorem dX10_loadTrivial_58 : decode cX10_loadTrivial 58 = .ok (.goto (-39), 3) := by decide +kernel
theorem dX10_loadTrivial_61 : decode cX10_loadTrivial 61 = .ok (.iload_n 1, 1) := by decide +kernel
theorem dX10_loadTrivial_62 : decode cX10_loadTrivial 62 = .ok (.ireturn, 1) := by decide +kernel
theorem dX10_alexander_0 : decode cX10_alexander 0 = .ok (.aload_n 0, 1) := by decide +kernel
theorem dX10_alexander_1 : decode cX10_alexander 1 = .ok (.iload_n 1, 1) := by decide +kernel
theorem dX10_alexander_2 : decode cX10_alexander 2 = .ok (.invokevirtual 48, 3) := by decide +kernel
theorem dX10_alexander_5 : decode cX10_alexander 5 = .ok (.iconst 0, 1) := by decide +kernel
theorem dX10_alexander_6 : decode cX10_alexander 6 = .ok (.istore_n 3, 1) := by decide +kernel
theorem dX10_alexander_7 : decode cX10_alexander 7 = .ok (.iload_n 3, 1) := by decide +kernel
theorem dX10_alexander_8 : decode cX10_alexander 8 = .ok (.iload_n 1, 1) := by decide +kernel
theorem dX10_alexander_9 : decode cX10_alexander 9 = .ok (.if_icmp .ge 53, 3) := by decide +kernel
theorem dX10_alexander_12 : decode cX10_alexander 12 = .ok (.iconst 0, 1) := by decide +kernel
theorem dX10_alexander_13 : decode cX10_alexander 13 = .ok (.istore 4, 2) := by decide +kernel
theorem dX10_alexander_15 : decode cX10_alexander 15 = .ok (.iload 4, 2) := by decide +kernel
theorem dX10_alexander_17 : decode cX10_alexander 17 = .ok (.iload_n 1, 1) := by decide +kernel
theorem dX10_alexander_18 : decode cX10_alexander 18 = .ok (.if_icmp .ge 38, 3) := by decide +kernel
theorem dX10_alexander_21 : decode cX10_alexander 21 = .ok (.aload_n 0, 1) := by decide +kernel
theorem dX10_alexander_22 : decode cX10_alexander 22 = .ok (.getfield 7, 3) := by decide +kernel
theorem dX10_alexander_25 : decode cX10_alexander 25 = .ok (.bipush 6, 2) := by decide +kernel
theorem dX10_alexander_27 : decode cX10_alexander 27 = .ok (.iload_n 3, 1) := by decide +kernel
theorem dX10_alexander_28 : decode cX10_alexander 28 = .ok (.imul, 1) := by decide +kernel
theorem dX10_alexander_29 : decode cX10_alexander 29 = .ok (.iload 4, 2) := by decide +kernel
theorem dX10_alexander_31 : decode cX10_alexander 31 = .ok (.iadd, 1) := by decide +kernel
theorem dX10_alexander_32 : decode cX10_alexander 32 = .ok (.iload_n 2, 1) := by decide +kernel
theorem dX10_alexander_33 : decode cX10_alexander 33 = .ok (.iload_n 3, 1) := by decide +kernel
theorem dX10_alexander_34 : decode cX10_alexander 34 = .ok (.imul, 1) := by decide +kernel
theorem dX10_alexander_35 : decode cX10_alexander 35 = .ok (.iconst 1, 1) := by decide +kernel
theorem dX10_alexander_36 : decode cX10_alexander 36 = .ok (.iload_n 2, 1) := by decide +kernel
theorem dX10_alexander_37 : decode cX10_alexander 37 = .ok (.isub, 1) := by decide +kernel
theorem dX10_alexander_38 : decode cX10_alexander 38 = .ok (.iload 4, 2) := by decide +kernel
theorem dX10_alexander_40 : decode cX10_alexander 40 = .ok (.imul, 1) := by decide +kernel
theorem dX10_alexander_41 : decode cX10_alexander 41 = .ok (.iadd, 1) := by decide +kernel
theorem dX10_alexander_42 : decode cX10_alexander 42 = .ok (.bipush 36, 2) := by decide +kernel
theorem dX10_alexander_44 : decode cX10_alexander 44 = .ok (.iload_n 1, 1) := by decide +kernel
theorem dX10_alexander_45 : decode cX10_alexander 45 = .ok (.imul, 1) := by decide +kernel
theorem dX10_alexander_46 : decode cX10_alexander 46 = .ok (.iadd, 1) := by decide +kernel
theorem dX10_alexander_47 : decode cX10_alexander 47 = .ok (.iload_n 1, 1) := by decide +kernel
theorem dX10_alexander_48 : decode cX10_alexander 48 = .ok (.irem, 1) := by decide +kernel
theorem dX10_alexander_49 : decode cX10_alexander 49 = .ok (.iastore, 1) := by decide +kernel
theorem dX10_alexander_50 : decode cX10_alexander 50 = .ok (.iinc 4 1, 3) := by decide +kernel
theorem dX10_alexander_53 : decode cX10_alexander 53 = .ok (.goto (-38), 3) := by decide +kernel
theorem dX10_alexander_56 : decode cX10_alexander 56 = .ok (.iinc 3 1, 3) := by decide +kernel
theorem dX10_alexander_59 : decode cX10_alexander 59 = .ok (.goto (-52), 3) := by decide +kernel
theorem dX10_alexander_62 : decode cX10_alexander 62 = .ok (.return_, 1) := by decide +kernel
theorem dX10_loadDihedral_0 : decode cX10_loadDihedral 0 = .ok (.iload_n 1, 1) := by decide +kernel
theorem dX10_loadDihedral_1 : decode cX10_loadDihedral 1 = .ok (.iconst 1, 1) := by decide +kernel
theorem dX10_loadDihedral_2 : decode cX10_loadDihedral 2 = .ok (.bipush 6, 2) := by decide +kernel
theorem dX10_loadDihedral_4 : decode cX10_loadDihedral 4 = .ok (.invokestatic 37, 3) := by decide +kernel
theorem dX10_loadDihedral_7 : decode cX10_loadDihedral 7 = .ok (.ifCond .ne 5, 3) := by decide +kernel
theorem dX10_loadDihedral_10 : decode cX10_loadDihedral 10 = .ok (.iconst (-1), 1) := by decide +kernel
theorem dX10_loadDihedral_11 : decode cX10_loadDihedral 11 = .ok (.ireturn, 1) := by decide +kernel
theorem dX10_loadDihedral_12 : decode cX10_loadDihedral 12 = .ok (.aload_n 0, 1) := by decide +kernel
theorem dX10_loadDihedral_13 : decode cX10_loadDihedral 13 = .ok (.iload_n 1, 1) := by decide +kernel
theorem dX10_loadDihedral_14 : decode cX10_loadDihedral 14 = .ok (.iconst (-1), 1) := by decide +kernel
theorem dX10_loadDihedral_15 : decode cX10_loadDihedral 15 = .ok (.invokevirtual 52, 3) := by decide +kernel
theorem dX10_loadDihedral_18 : decode cX10_loadDihedral 18 = .ok (.iload_n 1, 1) := by decide +kernel
theorem dX10_loadDihedral_19 : decode cX10_loadDihedral 19 = .ok (.ireturn, 1) := by decide +kernel
theorem dX10_divisor_0 : decode cX10_divisor 0 = .ok (.iload_n 0, 1) := by decide +kernel
theorem dX10_divisor_1 : decode cX10_divisor 1 = .ok (.istore_n 2, 1) := by decide +kernel
theorem dX10_divisor_2 : decode cX10_divisor 2 = .ok (.iload_n 1, 1) := by decide +kernel
theorem dX10_divisor_3 : decode cX10_divisor 3 = .ok (.istore_n 3, 1) := by decide +kernel
theorem dX10_divisor_4 : decode cX10_divisor 4 = .ok (.iload_n 3, 1) := by decide +kernel
theorem dX10_divisor_5 : decode cX10_divisor 5 = .ok (.ifCond .eq 16, 3) := by decide +kernel
theorem dX10_divisor_8 : decode cX10_divisor 8 = .ok (.iload_n 2, 1) := by decide +kernel
theorem dX10_divisor_9 : decode cX10_divisor 9 = .ok (.iload_n 3, 1) := by decide +kernel
theorem dX10_divisor_10 : decode cX10_divisor 10 = .ok (.irem, 1) := by decide +kernel
theorem dX10_divisor_11 : decode cX10_divisor 11 = .ok (.istore 4, 2) := by decide +kernel
theorem dX10_divisor_13 : decode cX10_divisor 13 = .ok (.iload_n 3, 1) := by decide +kernel
theorem dX10_divisor_14 : decode cX10_divisor 14 = .ok (.istore_n 2, 1) := by decide +kernel
theorem dX10_divisor_15 : decode cX10_divisor 15 = .ok (.iload 4, 2) := by decide +kernel
theorem dX10_divisor_17 : decode cX10_divisor 17 = .ok (.istore_n 3, 1) := by decide +kernel
theorem dX10_divisor_18 : decode cX10_divisor 18 = .ok (.goto (-14), 3) := by decide +kernel
theorem dX10_divisor_21 : decode cX10_divisor 21 = .ok (.iload_n 2, 1) := by decide +kernel
theorem dX10_divisor_22 : decode cX10_divisor 22 = .ok (.ireturn, 1) := by decide +kernel
theorem dX10_loadAlexander_0 : decode cX10_loadAlexander 0 = .ok (.iload_n 1, 1) := by decide +kernel
theorem dX10_loadAlexander_1 : decode cX10_loadAlexander 1 = .ok (.iconst 1, 1) := by decide +kernel
theorem dX10_loadAlexander_2 : decode cX10_loadAlexander 2 = .ok (.bipush 6, 2) := by decide +kernel
theorem dX10_loadAlexander_4 : decode cX10_loadAlexander 4 = .ok (.invokestatic 37, 3) := by decide +kernel
theorem dX10_loadAlexander_7 : decode cX10_loadAlexander 7 = .ok (.ifCond .eq 23, 3) := by decide +kernel
theorem dX10_loadAlexander_10 : decode cX10_loadAlexander 10 = .ok (.iload_n 2, 1) := by decide +kernel
theorem dX10_loadAlexander_11 : decode cX10_loadAlexander 11 = .ok (.iconst 0, 1) := by decide +kernel
theorem dX10_loadAlexander_12 : decode cX10_loadAlexander 12 = .ok (.iload_n 1, 1) := by decide +kernel
theorem dX10_loadAlexander_13 : decode cX10_loadAlexander 13 = .ok (.iconst 1, 1) := by decide +kernel
theorem dX10_loadAlexander_14 : decode cX10_loadAlexander 14 = .ok (.isub, 1) := by decide +kernel
theorem dX10_loadAlexander_15 : decode cX10_loadAlexander 15 = .ok (.invokestatic 37, 3) := by decide +kernel
theorem dX10_loadAlexander_18 : decode cX10_loadAlexander 18 = .ok (.ifCond .eq 12, 3) := by decide +kernel
theorem dX10_loadAlexander_21 : decode cX10_loadAlexander 21 = .ok (.iload_n 1, 1) := by decide +kernel
theorem dX10_loadAlexander_22 : decode cX10_loadAlexander 22 = .ok (.iload_n 2, 1) := by decide +kernel
theorem dX10_loadAlexander_23 : decode cX10_loadAlexander 23 = .ok (.invokestatic 56, 3) := by decide +kernel
theorem dX10_loadAlexander_26 : decode cX10_loadAlexander 26 = .ok (.iconst 1, 1) := by decide +kernel
theorem dX10_loadAlexander_27 : decode cX10_loadAlexander 27 = .ok (.if_icmp .le 5, 3) := by decide +kernel
theorem dX10_loadAlexander_30 : decode cX10_loadAlexander 30 = .ok (.iconst (-1), 1) := by decide +kernel
theorem dX10_loadAlexander_31 : decode cX10_loadAlexander 31 = .ok (.ireturn, 1) := by decide +kernel
theorem dX10_loadAlexander_32 : decode cX10_loadAlexander 32 = .ok (.aload_n 0, 1) := by decide +kernel
theorem dX10_loadAlexander_33 : decode cX10_loadAlexander 33 = .ok (.iload_n 1, 1) := by decide +kernel
theorem dX10_loadAlexander_34 : decode cX10_loadAlexander 34 = .ok (.iload_n 2, 1) := by decide +kernel
theorem dX10_loadAlexander_35 : decode cX10_loadAlexander 35 = .ok (.invokevirtual 52, 3) := by decide +kernel
theorem dX10_loadAlexander_38 : decode cX10_loadAlexander 38 = .ok (.iload_n 1, 1) := by decide +kernel
theorem dX10_loadAlexander_39 : decode cX10_loadAlexander 39 = .ok (.ireturn, 1) := by decide +kernel
theorem dX10_unrank_0 : decode cX10_unrank 0 = .ok (.iconst 1, 1) := by decide +kernel
theorem dX10_unrank_1 : decode cX10_unrank 1 = .ok (.iload_n 1, 1) := by decide +kernel
theorem dX10_unrank_2 : decode cX10_unrank 2 = .ok (.ishl, 1) := by decide +kernel
theorem dX10_unrank_3 : decode cX10_unrank 3 = .ok (.iconst 1, 1) := by decide +kernel
theorem dX10_unrank_4 : decode cX10_unrank 4 = .ok (.isub, 1) := by decide +kernel
theorem dX10_unrank_5 : decode cX10_unrank 5 = .ok (.istore_n 3, 1) := by decide +kernel
theorem dX10_unrank_6 : decode cX10_unrank 6 = .ok (.iload_n 2, 1) := by decide +kernel
theorem dX10_unrank_7 : decode cX10_unrank 7 = .ok (.istore 4, 2) := by decide +kernel
theorem dX10_unrank_9 : decode cX10_unrank 9 = .ok (.iconst 1, 1) := by decide +kernel
theorem dX10_unrank_10 : decode cX10_unrank 10 = .ok (.istore 5, 2) := by decide +kernel
theorem dX10_unrank_12 : decode cX10_unrank 12 = .ok (.iconst 2, 1) := by decide +kernel
theorem dX10_unrank_13 : decode cX10_unrank 13 = .ok (.istore 6, 2) := by decide +kernel
theorem dX10_unrank_15 : decode cX10_unrank 15 = .ok (.iload 6, 2) := by decide +kernel
theorem dX10_unrank_17 : decode cX10_unrank 17 = .ok (.iload_n 1, 1) := by decide +kernel
theorem dX10_unrank_18 : decode cX10_unrank 18 = .ok (.if_icmp .ge 16, 3) := by decide +kernel
theorem dX10_unrank_21 : decode cX10_unrank 21 = .ok (.iload 5, 2) := by decide +kernel
theorem dX10_unrank_23 : decode cX10_unrank 23 = .ok (.iload 6, 2) := by decide +kernel
theorem dX10_unrank_25 : decode cX10_unrank 25 = .ok (.imul, 1) := by decide +kernel
theorem dX10_unrank_26 : decode cX10_unrank 26 = .ok (.istore 5, 2) := by decide +kernel
theorem dX10_unrank_28 : decode cX10_unrank 28 = .ok (.iinc 6 1, 3) := by decide +kernel
theorem dX10_unrank_31 : decode cX10_unrank 31 = .ok (.goto (-16), 3) := by decide +kernel
theorem dX10_unrank_34 : decode cX10_unrank 34 = .ok (.iconst 0, 1) := by decide +kernel
theorem dX10_unrank_35 : decode cX10_unrank 35 = .ok (.istore 6, 2) := by decide +kernel
theorem dX10_unrank_37 : decode cX10_unrank 37 = .ok (.iload 6, 2) := by decide +kernel
theorem dX10_unrank_39 : decode cX10_unrank 39 = .ok (.iload_n 1, 1) := by decide +kernel
theorem dX10_unrank_40 : decode cX10_unrank 40 = .ok (.if_icmp .ge 99, 3) := by decide +kernel
theorem dX10_unrank_43 : decode cX10_unrank 43 = .ok (.iload 4, 2) := by decide +kernel
theorem dX10_unrank_45 : decode cX10_unrank 45 = .ok (.iload 5, 2) := by decide +kernel
theorem dX10_unrank_47 : decode cX10_unrank 47 = .ok (.idiv, 1) := by decide +kernel
theorem dX10_unrank_48 : decode cX10_unrank 48 = .ok (.istore 7, 2) := by decide +kernel
theorem dX10_unrank_50 : decode cX10_unrank 50 = .ok (.iload 4, 2) := by decide +kernel
theorem dX10_unrank_52 : decode cX10_unrank 52 = .ok (.iload 5, 2) := by decide +kernel
theorem dX10_unrank_54 : decode cX10_unrank 54 = .ok (.irem, 1) := by decide +kernel
theorem dX10_unrank_55 : decode cX10_unrank 55 = .ok (.istore 4, 2) := by decide +kernel
theorem dX10_unrank_57 : decode cX10_unrank 57 = .ok (.iload_n 1, 1) := by decide +kernel
theorem dX10_unrank_58 : decode cX10_unrank 58 = .ok (.iconst 1, 1) := by decide +kernel
theorem dX10_unrank_59 : decode cX10_unrank 59 = .ok (.isub, 1) := by decide +kernel
theorem dX10_unrank_60 : decode cX10_unrank 60 = .ok (.iload 6, 2) := by decide +kernel
theorem dX10_unrank_62 : decode cX10_unrank 62 = .ok (.isub, 1) := by decide +kernel
theorem dX10_unrank_63 : decode cX10_unrank 63 = .ok (.ifCond .le 15, 3) := by decide +kernel
theorem dX10_unrank_66 : decode cX10_unrank 66 = .ok (.iload 5, 2) := by decide +kernel
theorem dX10_unrank_68 : decode cX10_unrank 68 = .ok (.iload_n 1, 1) := by decide +kernel
theorem dX10_unrank_69 : decode cX10_unrank 69 = .ok (.iconst 1, 1) := by decide +kernel
theorem dX10_unrank_70 : decode cX10_unrank 70 = .ok (.isub, 1) := by decide +kernel
theorem dX10_unrank_71 : decode cX10_unrank 71 = .ok (.iload 6, 2) := by decide +kernel
theorem dX10_unrank_73 : decode cX10_unrank 73 = .ok (.isub, 1) := by decide +kernel
theorem dX10_unrank_74 : decode cX10_unrank 74 = .ok (.idiv, 1) := by decide +kernel
theorem dX10_unrank_75 : decode cX10_unrank 75 = .ok (.goto 4, 3) := by decide +kernel
theorem dX10_unrank_78 : decode cX10_unrank 78 = .ok (.iconst 1, 1) := by decide +kernel
theorem dX10_unrank_79 : decode cX10_unrank 79 = .ok (.istore 5, 2) := by decide +kernel
theorem dX10_unrank_81 : decode cX10_unrank 81 = .ok (.iconst 0, 1) := by decide +kernel
theorem dX10_unrank_82 : decode cX10_unrank 82 = .ok (.istore 8, 2) := by decide +kernel
theorem dX10_unrank_84 : decode cX10_unrank 84 = .ok (.iload_n 3, 1) := by decide +kernel
theorem dX10_unrank_85 : decode cX10_unrank 85 = .ok (.iload 8, 2) := by decide +kernel
theorem dX10_unrank_87 : decode cX10_unrank 87 = .ok (.ishr, 1) := by decide +kernel
theorem dX10_unrank_88 : decode cX10_unrank 88 = .ok (.iconst 1, 1) := by decide +kernel
theorem dX10_unrank_89 : decode cX10_unrank 89 = .ok (.iand, 1) := by decide +kernel
theorem dX10_unrank_90 : decode cX10_unrank 90 = .ok (.ifCond .eq 8, 3) := by decide +kernel
theorem dX10_unrank_93 : decode cX10_unrank 93 = .ok (.iload 7, 2) := by decide +kernel
theorem dX10_unrank_95 : decode cX10_unrank 95 = .ok (.ifCond .le 20, 3) := by decide +kernel
theorem dX10_unrank_98 : decode cX10_unrank 98 = .ok (.iload 7, 2) := by decide +kernel
theorem dX10_unrank_100 : decode cX10_unrank 100 = .ok (.iload_n 3, 1) := by decide +kernel
theorem dX10_unrank_101 : decode cX10_unrank 101 = .ok (.iload 8, 2) := by decide +kernel
theorem dX10_unrank_103 : decode cX10_unrank 103 = .ok (.ishr, 1) := by decide +kernel
theorem dX10_unrank_104 : decode cX10_unrank 104 = .ok (.iconst 1, 1) := by decide +kernel
theorem dX10_unrank_105 : decode cX10_unrank 105 = .ok (.iand, 1) := by decide +kernel
theorem dX10_unrank_106 : decode cX10_unrank 106 = .ok (.isub, 1) := by decide +kernel
theorem dX10_unrank_107 : decode cX10_unrank 107 = .ok (.istore 7, 2) := by decide +kernel
theorem dX10_unrank_109 : decode cX10_unrank 109 = .ok (.iinc 8 1, 3) := by decide +kernel
theorem dX10_unrank_112 : decode cX10_unrank 112 = .ok (.goto (-28), 3) := by decide +kernel
theorem dX10_unrank_115 : decode cX10_unrank 115 = .ok (.iload_n 3, 1) := by decide +kernel
theorem dX10_unrank_116 : decode cX10_unrank 116 = .ok (.iconst 1, 1) := by decide +kernel
theorem dX10_unrank_117 : decode cX10_unrank 117 = .ok (.iload 8, 2) := by decide +kernel
theorem dX10_unrank_119 : decode cX10_unrank 119 = .ok (.ishl, 1) := by decide +kernel
theorem dX10_unrank_120 : decode cX10_unrank 120 = .ok (.iconst (-1), 1) := by decide +kernel
theorem dX10_unrank_121 : decode cX10_unrank 121 = .ok (.ixor, 1) := by decide +kernel
theorem dX10_unrank_122 : decode cX10_unrank 122 = .ok (.iand, 1) := by decide +kernel
theorem dX10_unrank_123 : decode cX10_unrank 123 = .ok (.istore_n 3, 1) := by decide +kernel
theorem dX10_unrank_124 : decode cX10_unrank 124 = .ok (.aload_n 0, 1) := by decide +kernel
theorem dX10_unrank_125 : decode cX10_unrank 125 = .ok (.getfield 19, 3) := by decide +kernel
theorem dX10_unrank_128 : decode cX10_unrank 128 = .ok (.iload 6, 2) := by decide +kernel
theorem dX10_unrank_130 : decode cX10_unrank 130 = .ok (.iload 8, 2) := by decide +kernel
theorem dX10_unrank_132 : decode cX10_unrank 132 = .ok (.iastore, 1) := by decide +kernel
theorem dX10_unrank_133 : decode cX10_unrank 133 = .ok (.iinc 6 1, 3) := by decide +kernel
theorem dX10_unrank_136 : decode cX10_unrank 136 = .ok (.goto (-99), 3) := by decide +kernel
theorem dX10_unrank_139 : decode cX10_unrank 139 = .ok (.return_, 1) := by decide +kernel
theorem dX10_factorial_0 : decode cX10_factorial 0 = .ok (.iconst 1, 1) := by decide +kernel
theorem dX10_factorial_1 : decode cX10_factorial 1 = .ok (.istore_n 1, 1) := by decide +kernel
theorem dX10_factorial_2 : decode cX10_factorial 2 = .ok (.iconst 2, 1) := by decide +kernel
theorem dX10_factorial_3 : decode cX10_factorial 3 = .ok (.istore_n 2, 1) := by decide +kernel
theorem dX10_factorial_4 : decode cX10_factorial 4 = .ok (.iload_n 2, 1) := by decide +kernel
theorem dX10_factorial_5 : decode cX10_factorial 5 = .ok (.iload_n 0, 1) := by decide +kernel
theorem dX10_factorial_6 : decode cX10_factorial 6 = .ok (.if_icmp .gt 13, 3) := by decide +kernel
theorem dX10_factorial_9 : decode cX10_factorial 9 = .ok (.iload_n 1, 1) := by decide +kernel
theorem dX10_factorial_10 : decode cX10_factorial 10 = .ok (.iload_n 2, 1) := by decide +kernel
theorem dX10_factorial_11 : decode cX10_factorial 11 = .ok (.imul, 1) := by decide +kernel
theorem dX10_factorial_12 : decode cX10_factorial 12 = .ok (.istore_n 1, 1) := by decide +kernel
theorem dX10_factorial_13 : decode cX10_factorial 13 = .ok (.iinc 2 1, 3) := by decide +kernel
theorem dX10_factorial_16 : decode cX10_factorial 16 = .ok (.goto (-12), 3) := by decide +kernel
theorem dX10_factorial_19 : decode cX10_factorial 19 = .ok (.iload_n 1, 1) := by decide +kernel
theorem dX10_factorial_20 : decode cX10_factorial 20 = .ok (.ireturn, 1) := by decide +kernel
theorem dX10_rank_0 : decode cX10_rank 0 = .ok (.iconst 0, 1) := by decide +kernel
theorem dX10_rank_1 : decode cX10_rank 1 = .ok (.istore_n 2, 1) := by decide +kernel
theorem dX10_rank_2 : decode cX10_rank 2 = .ok (.iconst 0, 1) := by decide +kernel
theorem dX10_rank_3 : decode cX10_rank 3 = .ok (.istore_n 3, 1) := by decide +kernel
theorem dX10_rank_4 : decode cX10_rank 4 = .ok (.iload_n 3, 1) := by decide +kernel
theorem dX10_rank_5 : decode cX10_rank 5 = .ok (.iload_n 1, 1) := by decide +kernel
theorem dX10_rank_6 : decode cX10_rank 6 = .ok (.if_icmp .ge 64, 3) := by decide +kernel
theorem dX10_rank_9 : decode cX10_rank 9 = .ok (.iconst 0, 1) := by decide +kernel
theorem dX10_rank_10 : decode cX10_rank 10 = .ok (.istore 4, 2) := by decide +kernel
theorem dX10_rank_12 : decode cX10_rank 12 = .ok (.iload_n 3, 1) := by decide +kernel
theorem dX10_rank_13 : decode cX10_rank 13 = .ok (.iconst 1, 1) := by decide +kernel
theorem dX10_rank_14 : decode cX10_rank 14 = .ok (.iadd, 1) := by decide +kernel
theorem dX10_rank_15 : decode cX10_rank 15 = .ok (.istore 5, 2) := by decide +kernel
theorem dX10_rank_17 : decode cX10_rank 17 = .ok (.iload 5, 2) := by decide +kernel
theorem dX10_rank_19 : decode cX10_rank 19 = .ok (.iload_n 1, 1) := by decide +kernel
theorem dX10_rank_20 : decode cX10_rank 20 = .ok (.if_icmp .ge 35, 3) := by decide +kernel
theorem dX10_rank_23 : decode cX10_rank 23 = .ok (.iload 4, 2) := by decide +kernel
theorem dX10_rank_25 : decode cX10_rank 25 = .ok (.aload_n 0, 1) := by decide +kernel
theorem dX10_rank_26 : decode cX10_rank 26 = .ok (.getfield 25, 3) := by decide +kernel
theorem dX10_rank_29 : decode cX10_rank 29 = .ok (.iload 5, 2) := by decide +kernel
theorem dX10_rank_31 : decode cX10_rank 31 = .ok (.iaload, 1) := by decide +kernel
theorem dX10_rank_32 : decode cX10_rank 32 = .ok (.aload_n 0, 1) := by decide +kernel
theorem dX10_rank_33 : decode cX10_rank 33 = .ok (.getfield 25, 3) := by decide +kernel
theorem dX10_rank_36 : decode cX10_rank 36 = .ok (.iload_n 3, 1) := by decide +kernel
theorem dX10_rank_37 : decode cX10_rank 37 = .ok (.iaload, 1) := by decide +kernel
theorem dX10_rank_38 : decode cX10_rank 38 = .ok (.if_icmp .ge 7, 3) := by decide +kernel
theorem dX10_rank_41 : decode cX10_rank 41 = .ok (.iconst 1, 1) := by decide +kernel
theorem dX10_rank_42 : decode cX10_rank 42 = .ok (.goto 4, 3) := by decide +kernel
theorem dX10_rank_45 : decode cX10_rank 45 = .ok (.iconst 0, 1) := by decide +kernel
theorem dX10_rank_46 : decode cX10_rank 46 = .ok (.iadd, 1) := by decide +kernel
theorem dX10_rank_47 : decode cX10_rank 47 = .ok (.istore 4, 2) := by decide +kernel
theorem dX10_rank_49 : decode cX10_rank 49 = .ok (.iinc 5 1, 3) := by decide +kernel
theorem dX10_rank_52 : decode cX10_rank 52 = .ok (.goto (-35), 3) := by decide +kernel
theorem dX10_rank_55 : decode cX10_rank 55 = .ok (.iload_n 2, 1) := by decide +kernel
theorem dX10_rank_56 : decode cX10_rank 56 = .ok (.iload_n 1, 1) := by decide +kernel
theorem dX10_rank_57 : decode cX10_rank 57 = .ok (.iload_n 3, 1) := by decide +kernel
theorem dX10_rank_58 : decode cX10_rank 58 = .ok (.isub, 1) := by decide +kernel
theorem dX10_rank_59 : decode cX10_rank 59 = .ok (.imul, 1) := by decide +kernel
theorem dX10_rank_60 : decode cX10_rank 60 = .ok (.iload 4, 2) := by decide +kernel
theorem dX10_rank_62 : decode cX10_rank 62 = .ok (.iadd, 1) := by decide +kernel
theorem dX10_rank_63 : decode cX10_rank 63 = .ok (.istore_n 2, 1) := by decide +kernel
theorem dX10_rank_64 : decode cX10_rank 64 = .ok (.iinc 3 1, 3) := by decide +kernel
theorem dX10_rank_67 : decode cX10_rank 67 = .ok (.goto (-63), 3) := by decide +kernel
theorem dX10_rank_70 : decode cX10_rank 70 = .ok (.iload_n 2, 1) := by decide +kernel
theorem dX10_rank_71 : decode cX10_rank 71 = .ok (.ireturn, 1) := by decide +kernel
theorem dX10_loadConjugation_0 : decode cX10_loadConjugation 0 = .ok (.aload_n 0, 1) := by decide +kernel
theorem dX10_loadConjugation_1 : decode cX10_loadConjugation 1 = .ok (.bipush 6, 2) := by decide +kernel
theorem dX10_loadConjugation_3 : decode cX10_loadConjugation 3 = .ok (.invokevirtual 48, 3) := by decide +kernel
theorem dX10_loadConjugation_6 : decode cX10_loadConjugation 6 = .ok (.iconst 0, 1) := by decide +kernel
theorem dX10_loadConjugation_7 : decode cX10_loadConjugation 7 = .ok (.istore_n 1, 1) := by decide +kernel
theorem dX10_loadConjugation_8 : decode cX10_loadConjugation 8 = .ok (.iload_n 1, 1) := by decide +kernel
theorem dX10_loadConjugation_9 : decode cX10_loadConjugation 9 = .ok (.bipush 6, 2) := by decide +kernel
theorem dX10_loadConjugation_11 : decode cX10_loadConjugation 11 = .ok (.if_icmp .ge 44, 3) := by decide +kernel
theorem dX10_loadConjugation_14 : decode cX10_loadConjugation 14 = .ok (.aload_n 0, 1) := by decide +kernel
theorem dX10_loadConjugation_15 : decode cX10_loadConjugation 15 = .ok (.iconst 3, 1) := by decide +kernel
theorem dX10_loadConjugation_16 : decode cX10_loadConjugation 16 = .ok (.iload_n 1, 1) := by decide +kernel
theorem dX10_loadConjugation_17 : decode cX10_loadConjugation 17 = .ok (.invokevirtual 60, 3) := by decide +kernel
theorem dX10_loadConjugation_20 : decode cX10_loadConjugation 20 = .ok (.iconst 0, 1) := by decide +kernel
theorem dX10_loadConjugation_21 : decode cX10_loadConjugation 21 = .ok (.istore_n 2, 1) := by decide +kernel
theorem dX10_loadConjugation_22 : decode cX10_loadConjugation 22 = .ok (.iload_n 2, 1) := by decide +kernel
theorem dX10_loadConjugation_23 : decode cX10_loadConjugation 23 = .ok (.iconst 3, 1) := by decide +kernel
theorem dX10_loadConjugation_24 : decode cX10_loadConjugation 24 = .ok (.if_icmp .ge 25, 3) := by decide +kernel
theorem dX10_loadConjugation_27 : decode cX10_loadConjugation 27 = .ok (.aload_n 0, 1) := by decide +kernel
theorem dX10_loadConjugation_28 : decode cX10_loadConjugation 28 = .ok (.getfield 28, 3) := by decide +kernel
theorem dX10_loadConjugation_31 : decode cX10_loadConjugation 31 = .ok (.iconst 3, 1) := by decide +kernel
theorem dX10_loadConjugation_32 : decode cX10_loadConjugation 32 = .ok (.iload_n 1, 1) := by decide +kernel
theorem dX10_loadConjugation_33 : decode cX10_loadConjugation 33 = .ok (.imul, 1) := by decide +kernel
theorem dX10_loadConjugation_34 : decode cX10_loadConjugation 34 = .ok (.iload_n 2, 1) := by decide +kernel
theorem dX10_loadConjugation_35 : decode cX10_loadConjugation 35 = .ok (.iadd, 1) := by decide +kernel
theorem dX10_loadConjugation_36 : decode cX10_loadConjugation 36 = .ok (.aload_n 0, 1) := by decide +kernel
theorem dX10_loadConjugation_37 : decode cX10_loadConjugation 37 = .ok (.getfield 19, 3) := by decide +kernel
theorem dX10_loadConjugation_40 : decode cX10_loadConjugation 40 = .ok (.iload_n 2, 1) := by decide +kernel
theorem dX10_loadConjugation_41 : decode cX10_loadConjugation 41 = .ok (.iaload, 1) := by decide +kernel
theorem dX10_loadConjugation_42 : decode cX10_loadConjugation 42 = .ok (.iastore, 1) := by decide +kernel
theorem dX10_loadConjugation_43 : decode cX10_loadConjugation 43 = .ok (.iinc 2 1, 3) := by decide +kernel
theorem dX10_loadConjugation_46 : decode cX10_loadConjugation 46 = .ok (.goto (-24), 3) := by decide +kernel
theorem dX10_loadConjugation_49 : decode cX10_loadConjugation 49 = .ok (.iinc 1 1, 3) := by decide +kernel
theorem dX10_loadConjugation_52 : decode cX10_loadConjugation 52 = .ok (.goto (-44), 3) := by decide +kernel
theorem dX10_loadConjugation_55 : decode cX10_loadConjugation 55 = .ok (.iconst 0, 1) := by decide +kernel
theorem dX10_loadConjugation_56 : decode cX10_loadConjugation 56 = .ok (.istore_n 1, 1) := by decide +kernel
theorem dX10_loadConjugation_57 : decode cX10_loadConjugation 57 = .ok (.iload_n 1, 1) := by decide +kernel
theorem dX10_loadConjugation_58 : decode cX10_loadConjugation 58 = .ok (.bipush 6, 2) := by decide +kernel
theorem dX10_loadConjugation_60 : decode cX10_loadConjugation 60 = .ok (.if_icmp .ge 106, 3) := by decide +kernel
theorem dX10_loadConjugation_63 : decode cX10_loadConjugation 63 = .ok (.iconst 0, 1) := by decide +kernel
theorem dX10_loadConjugation_64 : decode cX10_loadConjugation 64 = .ok (.istore_n 2, 1) := by decide +kernel
theorem dX10_loadConjugation_65 : decode cX10_loadConjugation 65 = .ok (.iload_n 2, 1) := by decide +kernel
theorem dX10_loadConjugation_66 : decode cX10_loadConjugation 66 = .ok (.bipush 6, 2) := by decide +kernel
theorem dX10_loadConjugation_68 : decode cX10_loadConjugation 68 = .ok (.if_icmp .ge 92, 3) := by decide +kernel
theorem dX10_loadConjugation_71 : decode cX10_loadConjugation 71 = .ok (.iconst 0, 1) := by decide +kernel
theorem dX10_loadConjugation_72 : decode cX10_loadConjugation 72 = .ok (.istore_n 3, 1) := by decide +kernel
theorem dX10_loadConjugation_73 : decode cX10_loadConjugation 73 = .ok (.iload_n 3, 1) := by decide +kernel
theorem dX10_loadConjugation_74 : decode cX10_loadConjugation 74 = .ok (.iconst 3, 1) := by decide +kernel
theorem dX10_loadConjugation_75 : decode cX10_loadConjugation 75 = .ok (.if_icmp .ge 63, 3) := by decide +kernel
theorem dX10_loadConjugation_78 : decode cX10_loadConjugation 78 = .ok (.aload_n 0, 1) := by decide +kernel
theorem dX10_loadConjugation_79 : decode cX10_loadConjugation 79 = .ok (.getfield 28, 3) := by decide +kernel
theorem dX10_loadConjugation_82 : decode cX10_loadConjugation 82 = .ok (.iconst 3, 1) := by decide +kernel
theorem dX10_loadConjugation_83 : decode cX10_loadConjugation 83 = .ok (.iload_n 1, 1) := by decide +kernel
theorem dX10_loadConjugation_84 : decode cX10_loadConjugation 84 = .ok (.imul, 1) := by decide +kernel
theorem dX10_loadConjugation_85 : decode cX10_loadConjugation 85 = .ok (.aload_n 0, 1) := by decide +kernel
theorem dX10_loadConjugation_86 : decode cX10_loadConjugation 86 = .ok (.getfield 28, 3) := by decide +kernel
theorem dX10_loadConjugation_89 : decode cX10_loadConjugation 89 = .ok (.iconst 3, 1) := by decide +kernel
theorem dX10_loadConjugation_90 : decode cX10_loadConjugation 90 = .ok (.iload_n 2, 1) := by decide +kernel
theorem dX10_loadConjugation_91 : decode cX10_loadConjugation 91 = .ok (.imul, 1) := by decide +kernel
theorem dX10_loadConjugation_92 : decode cX10_loadConjugation 92 = .ok (.iload_n 3, 1) := by decide +kernel
theorem dX10_loadConjugation_93 : decode cX10_loadConjugation 93 = .ok (.iadd, 1) := by decide +kernel
theorem dX10_loadConjugation_94 : decode cX10_loadConjugation 94 = .ok (.iaload, 1) := by decide +kernel
theorem dX10_loadConjugation_95 : decode cX10_loadConjugation 95 = .ok (.iadd, 1) := by decide +kernel
theorem dX10_loadConjugation_96 : decode cX10_loadConjugation 96 = .ok (.iaload, 1) := by decide +kernel
theorem dX10_loadConjugation_97 : decode cX10_loadConjugation 97 = .ok (.istore 4, 2) := by decide +kernel
theorem dX10_loadConjugation_99 : decode cX10_loadConjugation 99 = .ok (.iconst 0, 1) := by decide +kernel
theorem dX10_loadConjugation_100 : decode cX10_loadConjugation 100 = .ok (.istore 5, 2) := by decide +kernel
theorem dX10_loadConjugation_102 : decode cX10_loadConjugation 102 = .ok (.aload_n 0, 1) := by decide +kernel
theorem dX10_loadConjugation_103 : decode cX10_loadConjugation 103 = .ok (.getfield 28, 3) := by decide +kernel
theorem dX10_loadConjugation_106 : decode cX10_loadConjugation 106 = .ok (.iconst 3, 1) := by decide +kernel
theorem dX10_loadConjugation_107 : decode cX10_loadConjugation 107 = .ok (.iload_n 2, 1) := by decide +kernel
theorem dX10_loadConjugation_108 : decode cX10_loadConjugation 108 = .ok (.imul, 1) := by decide +kernel
theorem dX10_loadConjugation_109 : decode cX10_loadConjugation 109 = .ok (.iload 5, 2) := by decide +kernel
theorem dX10_loadConjugation_111 : decode cX10_loadConjugation 111 = .ok (.iadd, 1) := by decide +kernel
theorem dX10_loadConjugation_112 : decode cX10_loadConjugation 112 = .ok (.iaload, 1) := by decide +kernel
theorem dX10_loadConjugation_113 : decode cX10_loadConjugation 113 = .ok (.iload 4, 2) := by decide +kernel
theorem dX10_loadConjugation_115 : decode cX10_loadConjugation 115 = .ok (.if_icmp .eq 9, 3) := by decide +kernel
theorem dX10_loadConjugation_118 : decode cX10_loadConjugation 118 = .ok (.iinc 5 1, 3) := by decide +kernel
theorem dX10_loadConjugation_121 : decode cX10_loadConjugation 121 = .ok (.goto (-19), 3) := by decide +kernel
theorem dX10_loadConjugation_124 : decode cX10_loadConjugation 124 = .ok (.aload_n 0, 1) := by decide +kernel
theorem dX10_loadConjugation_125 : decode cX10_loadConjugation 125 = .ok (.getfield 25, 3) := by decide +kernel
theorem dX10_loadConjugation_128 : decode cX10_loadConjugation 128 = .ok (.iload_n 3, 1) := by decide +kernel
theorem dX10_loadConjugation_129 : decode cX10_loadConjugation 129 = .ok (.iload 5, 2) := by decide +kernel
theorem dX10_loadConjugation_131 : decode cX10_loadConjugation 131 = .ok (.iastore, 1) := by decide +kernel
theorem dX10_loadConjugation_132 : decode cX10_loadConjugation 132 = .ok (.iinc 3 1, 3) := by decide +kernel
theorem dX10_loadConjugation_135 : decode cX10_loadConjugation 135 = .ok (.goto (-62), 3) := by decide +kernel
theorem dX10_loadConjugation_138 : decode cX10_loadConjugation 138 = .ok (.aload_n 0, 1) := by decide +kernel
theorem dX10_loadConjugation_139 : decode cX10_loadConjugation 139 = .ok (.getfield 7, 3) := by decide +kernel
theorem dX10_loadConjugation_142 : decode cX10_loadConjugation 142 = .ok (.bipush 6, 2) := by decide +kernel
theorem dX10_loadConjugation_144 : decode cX10_loadConjugation 144 = .ok (.iload_n 1, 1) := by decide +kernel
theorem dX10_loadConjugation_145 : decode cX10_loadConjugation 145 = .ok (.imul, 1) := by decide +kernel
theorem dX10_loadConjugation_146 : decode cX10_loadConjugation 146 = .ok (.iload_n 2, 1) := by decide +kernel
theorem dX10_loadConjugation_147 : decode cX10_loadConjugation 147 = .ok (.iadd, 1) := by decide +kernel
theorem dX10_loadConjugation_148 : decode cX10_loadConjugation 148 = .ok (.aload_n 0, 1) := by decide +kernel
theorem dX10_loadConjugation_149 : decode cX10_loadConjugation 149 = .ok (.iconst 3, 1) := by decide +kernel
theorem dX10_loadConjugation_150 : decode cX10_loadConjugation 150 = .ok (.invokevirtual 63, 3) := by decide +kernel
theorem dX10_loadConjugation_153 : decode cX10_loadConjugation 153 = .ok (.iastore, 1) := by decide +kernel
theorem dX10_loadConjugation_154 : decode cX10_loadConjugation 154 = .ok (.iinc 2 1, 3) := by decide +kernel
theorem dX10_loadConjugation_157 : decode cX10_loadConjugation 157 = .ok (.goto (-92), 3) := by decide +kernel
theorem dX10_loadConjugation_160 : decode cX10_loadConjugation 160 = .ok (.iinc 1 1, 3) := by decide +kernel
theorem dX10_loadConjugation_163 : decode cX10_loadConjugation 163 = .ok (.goto (-106), 3) := by decide +kernel
theorem dX10_loadConjugation_166 : decode cX10_loadConjugation 166 = .ok (.bipush 6, 2) := by decide +kernel
theorem dX10_loadConjugation_168 : decode cX10_loadConjugation 168 = .ok (.ireturn, 1) := by decide +kernel
theorem dX10_loadCyclicRack_0 : decode cX10_loadCyclicRack 0 = .ok (.iload_n 1, 1) := by decide +kernel
theorem dX10_loadCyclicRack_1 : decode cX10_loadCyclicRack 1 = .ok (.iconst 1, 1) := by decide +kernel
theorem dX10_loadCyclicRack_2 : decode cX10_loadCyclicRack 2 = .ok (.bipush 6, 2) := by decide +kernel
theorem dX10_loadCyclicRack_4 : decode cX10_loadCyclicRack 4 = .ok (.invokestatic 37, 3) := by decide +kernel
theorem dX10_loadCyclicRack_7 : decode cX10_loadCyclicRack 7 = .ok (.ifCond .ne 5, 3) := by decide +kernel
theorem dX10_loadCyclicRack_10 : decode cX10_loadCyclicRack 10 = .ok (.iconst (-1), 1) := by decide +kernel
theorem dX10_loadCyclicRack_11 : decode cX10_loadCyclicRack 11 = .ok (.ireturn, 1) := by decide +kernel
theorem dX10_loadCyclicRack_12 : decode cX10_loadCyclicRack 12 = .ok (.aload_n 0, 1) := by decide +kernel
theorem dX10_loadCyclicRack_13 : decode cX10_loadCyclicRack 13 = .ok (.iload_n 1, 1) := by decide +kernel
theorem dX10_loadCyclicRack_14 : decode cX10_loadCyclicRack 14 = .ok (.invokevirtual 48, 3) := by decide +kernel
theorem dX10_loadCyclicRack_17 : decode cX10_loadCyclicRack 17 = .ok (.iconst 0, 1) := by decide +kernel
theorem dX10_loadCyclicRack_18 : decode cX10_loadCyclicRack 18 = .ok (.istore_n 2, 1) := by decide +kernel
theorem dX10_loadCyclicRack_19 : decode cX10_loadCyclicRack 19 = .ok (.iload_n 2, 1) := by decide +kernel
theorem dX10_loadCyclicRack_20 : decode cX10_loadCyclicRack 20 = .ok (.iload_n 1, 1) := by decide +kernel
theorem dX10_loadCyclicRack_21 : decode cX10_loadCyclicRack 21 = .ok (.if_icmp .ge 38, 3) := by decide +kernel
theorem dX10_loadCyclicRack_24 : decode cX10_loadCyclicRack 24 = .ok (.iconst 0, 1) := by decide +kernel
theorem dX10_loadCyclicRack_25 : decode cX10_loadCyclicRack 25 = .ok (.istore_n 3, 1) := by decide +kernel
theorem dX10_loadCyclicRack_26 : decode cX10_loadCyclicRack 26 = .ok (.iload_n 3, 1) := by decide +kernel
theorem dX10_loadCyclicRack_27 : decode cX10_loadCyclicRack 27 = .ok (.iload_n 1, 1) := by decide +kernel
theorem dX10_loadCyclicRack_28 : decode cX10_loadCyclicRack 28 = .ok (.if_icmp .ge 25, 3) := by decide +kernel
theorem dX10_loadCyclicRack_31 : decode cX10_loadCyclicRack 31 = .ok (.aload_n 0, 1) := by decide +kernel
theorem dX10_loadCyclicRack_32 : decode cX10_loadCyclicRack 32 = .ok (.getfield 7, 3) := by decide +kernel
theorem dX10_loadCyclicRack_35 : decode cX10_loadCyclicRack 35 = .ok (.bipush 6, 2) := by decide +kernel
theorem dX10_loadCyclicRack_37 : decode cX10_loadCyclicRack 37 = .ok (.iload_n 2, 1) := by decide +kernel
theorem dX10_loadCyclicRack_38 : decode cX10_loadCyclicRack 38 = .ok (.imul, 1) := by decide +kernel
theorem dX10_loadCyclicRack_39 : decode cX10_loadCyclicRack 39 = .ok (.iload_n 3, 1) := by decide +kernel
theorem dX10_loadCyclicRack_40 : decode cX10_loadCyclicRack 40 = .ok (.iadd, 1) := by decide +kernel
theorem dX10_loadCyclicRack_41 : decode cX10_loadCyclicRack 41 = .ok (.iload_n 2, 1) := by decide +kernel
theorem dX10_loadCyclicRack_42 : decode cX10_loadCyclicRack 42 = .ok (.iconst 1, 1) := by decide +kernel
theorem dX10_loadCyclicRack_43 : decode cX10_loadCyclicRack 43 = .ok (.iadd, 1) := by decide +kernel
theorem dX10_loadCyclicRack_44 : decode cX10_loadCyclicRack 44 = .ok (.iload_n 1, 1) := by decide +kernel
theorem dX10_loadCyclicRack_45 : decode cX10_loadCyclicRack 45 = .ok (.irem, 1) := by decide +kernel
theorem dX10_loadCyclicRack_46 : decode cX10_loadCyclicRack 46 = .ok (.iastore, 1) := by decide +kernel
theorem dX10_loadCyclicRack_47 : decode cX10_loadCyclicRack 47 = .ok (.iinc 3 1, 3) := by decide +kernel
theorem dX10_loadCyclicRack_50 : decode cX10_loadCyclicRack 50 = .ok (.goto (-24), 3) := by decide +kernel
theorem dX10_loadCyclicRack_53 : decode cX10_loadCyclicRack 53 = .ok (.iinc 2 1, 3) := by decide +kernel
theorem dX10_loadCyclicRack_56 : decode cX10_loadCyclicRack 56 = .ok (.goto (-37), 3) := by decide +kernel
theorem dX10_loadCyclicRack_59 : decode cX10_loadCyclicRack 59 = .ok (.iload_n 1, 1) := by decide +kernel
theorem dX10_loadCyclicRack_60 : decode cX10_loadCyclicRack 60 = .ok (.ireturn, 1) := by decide +kernel
theorem dX10_column_0 : decode cX10_column 0 = .ok (.iconst 0, 1) := by decide +kernel
theorem dX10_column_1 : decode cX10_column 1 = .ok (.istore_n 1, 1) := by decide +kernel
theorem dX10_column_2 : decode cX10_column 2 = .ok (.iload_n 1, 1) := by decide +kernel
theorem dX10_column_3 : decode cX10_column 3 = .ok (.aload_n 0, 1) := by decide +kernel
theorem dX10_column_4 : decode cX10_column 4 = .ok (.getfield 7, 3) := by decide +kernel
theorem dX10_column_7 : decode cX10_column 7 = .ok (.bipush 84, 2) := by decide +kernel
theorem dX10_column_9 : decode cX10_column 9 = .ok (.iaload, 1) := by decide +kernel
theorem dX10_column_10 : decode cX10_column 10 = .ok (.if_icmp .ge 75, 3) := by decide +kernel
theorem dX10_column_13 : decode cX10_column 13 = .ok (.iconst 0, 1) := by decide +kernel
theorem dX10_column_14 : decode cX10_column 14 = .ok (.istore_n 2, 1) := by decide +kernel
theorem dX10_column_15 : decode cX10_column 15 = .ok (.iconst 0, 1) := by decide +kernel
theorem dX10_column_16 : decode cX10_column 16 = .ok (.istore_n 3, 1) := by decide +kernel
theorem dX10_column_17 : decode cX10_column 17 = .ok (.iload_n 3, 1) := by decide +kernel
theorem dX10_column_18 : decode cX10_column 18 = .ok (.aload_n 0, 1) := by decide +kernel
theorem dX10_column_19 : decode cX10_column 19 = .ok (.getfield 7, 3) := by decide +kernel
theorem dX10_column_22 : decode cX10_column 22 = .ok (.bipush 84, 2) := by decide +kernel
theorem dX10_column_24 : decode cX10_column 24 = .ok (.iaload, 1) := by decide +kernel
theorem dX10_column_25 : decode cX10_column 25 = .ok (.if_icmp .ge 54, 3) := by decide +kernel
theorem dX10_column_28 : decode cX10_column 28 = .ok (.aload_n 0, 1) := by decide +kernel
theorem dX10_column_29 : decode cX10_column 29 = .ok (.getfield 7, 3) := by decide +kernel
theorem dX10_column_32 : decode cX10_column 32 = .ok (.bipush 6, 2) := by decide +kernel
theorem dX10_column_34 : decode cX10_column 34 = .ok (.iload_n 3, 1) := by decide +kernel
theorem dX10_column_35 : decode cX10_column 35 = .ok (.imul, 1) := by decide +kernel
theorem dX10_column_36 : decode cX10_column 36 = .ok (.iload_n 1, 1) := by decide +kernel
theorem dX10_column_37 : decode cX10_column 37 = .ok (.iadd, 1) := by decide +kernel
theorem dX10_column_38 : decode cX10_column 38 = .ok (.iaload, 1) := by decide +kernel
theorem dX10_column_39 : decode cX10_column 39 = .ok (.istore 4, 2) := by decide +kernel
theorem dX10_column_41 : decode cX10_column 41 = .ok (.iload_n 2, 1) := by decide +kernel
theorem dX10_column_42 : decode cX10_column 42 = .ok (.iload 4, 2) := by decide +kernel
theorem dX10_column_44 : decode cX10_column 44 = .ok (.ishr, 1) := by decide +kernel
theorem dX10_column_45 : decode cX10_column 45 = .ok (.iconst 1, 1) := by decide +kernel
theorem dX10_column_46 : decode cX10_column 46 = .ok (.iand, 1) := by decide +kernel
theorem dX10_column_47 : decode cX10_column 47 = .ok (.iconst 1, 1) := by decide +kernel
theorem dX10_column_48 : decode cX10_column 48 = .ok (.if_icmp .ne 5, 3) := by decide +kernel
theorem dX10_column_51 : decode cX10_column 51 = .ok (.iload_n 1, 1) := by decide +kernel
theorem dX10_column_52 : decode cX10_column 52 = .ok (.ireturn, 1) := by decide +kernel
theorem dX10_column_53 : decode cX10_column 53 = .ok (.iload_n 2, 1) := by decide +kernel
theorem dX10_column_54 : decode cX10_column 54 = .ok (.iconst 1, 1) := by decide +kernel
theorem dX10_column_55 : decode cX10_column 55 = .ok (.iload 4, 2) := by decide +kernel
theorem dX10_column_57 : decode cX10_column 57 = .ok (.ishl, 1) := by decide +kernel
theorem dX10_column_58 : decode cX10_column 58 = .ok (.ior, 1) := by decide +kernel
theorem dX10_column_59 : decode cX10_column 59 = .ok (.istore_n 2, 1) := by decide +kernel
theorem dX10_column_60 : decode cX10_column 60 = .ok (.aload_n 0, 1) := by decide +kernel
theorem dX10_column_61 : decode cX10_column 61 = .ok (.getfield 16, 3) := by decide +kernel
theorem dX10_column_64 : decode cX10_column 64 = .ok (.bipush 6, 2) := by decide +kernel
theorem dX10_column_66 : decode cX10_column 66 = .ok (.iload 4, 2) := by decide +kernel
theorem dX10_column_68 : decode cX10_column 68 = .ok (.imul, 1) := by decide +kernel
theorem dX10_column_69 : decode cX10_column 69 = .ok (.iload_n 1, 1) := by decide +kernel
theorem dX10_column_70 : decode cX10_column 70 = .ok (.iadd, 1) := by decide +kernel
theorem dX10_column_71 : decode cX10_column 71 = .ok (.iload_n 3, 1) := by decide +kernel
theorem dX10_column_72 : decode cX10_column 72 = .ok (.iastore, 1) := by decide +kernel
theorem dX10_column_73 : decode cX10_column 73 = .ok (.iinc 3 1, 3) := by decide +kernel
theorem dX10_column_76 : decode cX10_column 76 = .ok (.goto (-59), 3) := by decide +kernel
theorem dX10_column_79 : decode cX10_column 79 = .ok (.iinc 1 1, 3) := by decide +kernel
theorem dX10_column_82 : decode cX10_column 82 = .ok (.goto (-80), 3) := by decide +kernel
theorem dX10_column_85 : decode cX10_column 85 = .ok (.bipush (-4), 2) := by decide +kernel
theorem dX10_column_87 : decode cX10_column 87 = .ok (.ireturn, 1) := by decide +kernel
theorem dX10_loadDual_0 : decode cX10_loadDual 0 = .ok (.aload_n 0, 1) := by decide +kernel
theorem dX10_loadDual_1 : decode cX10_loadDual 1 = .ok (.invokevirtual 67, 3) := by decide +kernel
theorem dX10_loadDual_4 : decode cX10_loadDual 4 = .ok (.bipush (-4), 2) := by decide +kernel
theorem dX10_loadDual_6 : decode cX10_loadDual 6 = .ok (.if_icmp .eq 6, 3) := by decide +kernel
theorem dX10_loadDual_9 : decode cX10_loadDual 9 = .ok (.bipush (-2), 2) := by decide +kernel
theorem dX10_loadDual_11 : decode cX10_loadDual 11 = .ok (.ireturn, 1) := by decide +kernel
theorem dX10_loadDual_12 : decode cX10_loadDual 12 = .ok (.aload_n 0, 1) := by decide +kernel
theorem dX10_loadDual_13 : decode cX10_loadDual 13 = .ok (.getfield 7, 3) := by decide +kernel
theorem dX10_loadDual_16 : decode cX10_loadDual 16 = .ok (.bipush 84, 2) := by decide +kernel
theorem dX10_loadDual_18 : decode cX10_loadDual 18 = .ok (.iaload, 1) := by decide +kernel
theorem dX10_loadDual_19 : decode cX10_loadDual 19 = .ok (.istore_n 1, 1) := by decide +kernel
theorem dX10_loadDual_20 : decode cX10_loadDual 20 = .ok (.aload_n 0, 1) := by decide +kernel
theorem dX10_loadDual_21 : decode cX10_loadDual 21 = .ok (.iload_n 1, 1) := by decide +kernel
theorem dX10_loadDual_22 : decode cX10_loadDual 22 = .ok (.invokevirtual 48, 3) := by decide +kernel
theorem dX10_loadDual_25 : decode cX10_loadDual 25 = .ok (.iconst 0, 1) := by decide +kernel
theorem dX10_loadDual_26 : decode cX10_loadDual 26 = .ok (.istore_n 2, 1) := by decide +kernel
theorem dX10_loadDual_27 : decode cX10_loadDual 27 = .ok (.iload_n 2, 1) := by decide +kernel
theorem dX10_loadDual_28 : decode cX10_loadDual 28 = .ok (.iload_n 1, 1) := by decide +kernel
theorem dX10_loadDual_29 : decode cX10_loadDual 29 = .ok (.if_icmp .ge 44, 3) := by decide +kernel
theorem dX10_loadDual_32 : decode cX10_loadDual 32 = .ok (.iconst 0, 1) := by decide +kernel
theorem dX10_loadDual_33 : decode cX10_loadDual 33 = .ok (.istore_n 3, 1) := by decide +kernel
theorem dX10_loadDual_34 : decode cX10_loadDual 34 = .ok (.iload_n 3, 1) := by decide +kernel
theorem dX10_loadDual_35 : decode cX10_loadDual 35 = .ok (.iload_n 1, 1) := by decide +kernel
theorem dX10_loadDual_36 : decode cX10_loadDual 36 = .ok (.if_icmp .ge 31, 3) := by decide +kernel
theorem dX10_loadDual_39 : decode cX10_loadDual 39 = .ok (.aload_n 0, 1) := by decide +kernel
theorem dX10_loadDual_40 : decode cX10_loadDual 40 = .ok (.getfield 7, 3) := by decide +kernel
theorem dX10_loadDual_43 : decode cX10_loadDual 43 = .ok (.bipush 6, 2) := by decide +kernel
theorem dX10_loadDual_45 : decode cX10_loadDual 45 = .ok (.iload_n 2, 1) := by decide +kernel
theorem dX10_loadDual_46 : decode cX10_loadDual 46 = .ok (.imul, 1) := by decide +kernel
theorem dX10_loadDual_47 : decode cX10_loadDual 47 = .ok (.iload_n 3, 1) := by decide +kernel
theorem dX10_loadDual_48 : decode cX10_loadDual 48 = .ok (.iadd, 1) := by decide +kernel
theorem dX10_loadDual_49 : decode cX10_loadDual 49 = .ok (.aload_n 0, 1) := by decide +kernel
theorem dX10_loadDual_50 : decode cX10_loadDual 50 = .ok (.getfield 16, 3) := by decide +kernel
theorem dX10_loadDual_53 : decode cX10_loadDual 53 = .ok (.bipush 6, 2) := by decide +kernel
theorem dX10_loadDual_55 : decode cX10_loadDual 55 = .ok (.iload_n 2, 1) := by decide +kernel
theorem dX10_loadDual_56 : decode cX10_loadDual 56 = .ok (.imul, 1) := by decide +kernel
theorem dX10_loadDual_57 : decode cX10_loadDual 57 = .ok (.iload_n 3, 1) := by decide +kernel
theorem dX10_loadDual_58 : decode cX10_loadDual 58 = .ok (.iadd, 1) := by decide +kernel
theorem dX10_loadDual_59 : decode cX10_loadDual 59 = .ok (.iaload, 1) := by decide +kernel
theorem dX10_loadDual_60 : decode cX10_loadDual 60 = .ok (.iastore, 1) := by decide +kernel
theorem dX10_loadDual_61 : decode cX10_loadDual 61 = .ok (.iinc 3 1, 3) := by decide +kernel
theorem dX10_loadDual_64 : decode cX10_loadDual 64 = .ok (.goto (-30), 3) := by decide +kernel
theorem dX10_loadDual_67 : decode cX10_loadDual 67 = .ok (.iinc 2 1, 3) := by decide +kernel
theorem dX10_loadDual_70 : decode cX10_loadDual 70 = .ok (.goto (-43), 3) := by decide +kernel
theorem dX10_loadDual_73 : decode cX10_loadDual 73 = .ok (.iload_n 1, 1) := by decide +kernel
theorem dX10_loadDual_74 : decode cX10_loadDual 74 = .ok (.ireturn, 1) := by decide +kernel
theorem dX10_setEntry_0 : decode cX10_setEntry 0 = .ok (.aload_n 0, 1) := by decide +kernel
theorem dX10_setEntry_1 : decode cX10_setEntry 1 = .ok (.iload_n 1, 1) := by decide +kernel
theorem dX10_setEntry_2 : decode cX10_setEntry 2 = .ok (.invokevirtual 71, 3) := by decide +kernel
theorem dX10_setEntry_5 : decode cX10_setEntry 5 = .ok (.ifCond .eq 19, 3) := by decide +kernel
theorem dX10_setEntry_8 : decode cX10_setEntry 8 = .ok (.aload_n 0, 1) := by decide +kernel
theorem dX10_setEntry_9 : decode cX10_setEntry 9 = .ok (.iload_n 2, 1) := by decide +kernel
theorem dX10_setEntry_10 : decode cX10_setEntry 10 = .ok (.invokevirtual 71, 3) := by decide +kernel
theorem dX10_setEntry_13 : decode cX10_setEntry 13 = .ok (.ifCond .eq 11, 3) := by decide +kernel
theorem dX10_setEntry_16 : decode cX10_setEntry 16 = .ok (.aload_n 0, 1) := by decide +kernel
theorem dX10_setEntry_17 : decode cX10_setEntry 17 = .ok (.iload_n 3, 1) := by decide +kernel
theorem dX10_setEntry_18 : decode cX10_setEntry 18 = .ok (.invokevirtual 71, 3) := by decide +kernel
theorem dX10_setEntry_21 : decode cX10_setEntry 21 = .ok (.ifCond .ne 5, 3) := by decide +kernel
theorem dX10_setEntry_24 : decode cX10_setEntry 24 = .ok (.iconst (-1), 1) := by decide +kernel
theorem dX10_setEntry_25 : decode cX10_setEntry 25 = .ok (.ireturn, 1) := by decide +kernel
theorem dX10_setEntry_26 : decode cX10_setEntry 26 = .ok (.aload_n 0, 1) := by decide +kernel
theorem dX10_setEntry_27 : decode cX10_setEntry 27 = .ok (.invokevirtual 45, 3) := by decide +kernel
theorem dX10_setEntry_30 : decode cX10_setEntry 30 = .ok (.aload_n 0, 1) := by decide +kernel
theorem dX10_setEntry_31 : decode cX10_setEntry 31 = .ok (.getfield 7, 3) := by decide +kernel
theorem dX10_setEntry_34 : decode cX10_setEntry 34 = .ok (.bipush 6, 2) := by decide +kernel
theorem dX10_setEntry_36 : decode cX10_setEntry 36 = .ok (.iload_n 1, 1) := by decide +kernel
theorem dX10_setEntry_37 : decode cX10_setEntry 37 = .ok (.imul, 1) := by decide +kernel
theorem dX10_setEntry_38 : decode cX10_setEntry 38 = .ok (.iload_n 2, 1) := by decide +kernel
theorem dX10_setEntry_39 : decode cX10_setEntry 39 = .ok (.iadd, 1) := by decide +kernel
theorem dX10_setEntry_40 : decode cX10_setEntry 40 = .ok (.iaload, 1) := by decide +kernel
theorem dX10_setEntry_41 : decode cX10_setEntry 41 = .ok (.istore 4, 2) := by decide +kernel
theorem dX10_setEntry_43 : decode cX10_setEntry 43 = .ok (.aload_n 0, 1) := by decide +kernel
theorem dX10_setEntry_44 : decode cX10_setEntry 44 = .ok (.getfield 7, 3) := by decide +kernel
theorem dX10_setEntry_47 : decode cX10_setEntry 47 = .ok (.bipush 6, 2) := by decide +kernel
theorem dX10_setEntry_49 : decode cX10_setEntry 49 = .ok (.iload_n 1, 1) := by decide +kernel
theorem dX10_setEntry_50 : decode cX10_setEntry 50 = .ok (.imul, 1) := by decide +kernel
theorem dX10_setEntry_51 : decode cX10_setEntry 51 = .ok (.iload_n 2, 1) := by decide +kernel
theorem dX10_setEntry_52 : decode cX10_setEntry 52 = .ok (.iadd, 1) := by decide +kernel
theorem dX10_setEntry_53 : decode cX10_setEntry 53 = .ok (.iload_n 3, 1) := by decide +kernel
theorem dX10_setEntry_54 : decode cX10_setEntry 54 = .ok (.iastore, 1) := by decide +kernel
theorem dX10_setEntry_55 : decode cX10_setEntry 55 = .ok (.iload 4, 2) := by decide +kernel
theorem dX10_setEntry_57 : decode cX10_setEntry 57 = .ok (.ireturn, 1) := by decide +kernel
theorem dX10_size_0 : decode cX10_size 0 = .ok (.aload_n 0, 1) := by decide +kernel
theorem dX10_size_1 : decode cX10_size 1 = .ok (.getfield 7, 3) := by decide +kernel
theorem dX10_size_4 : decode cX10_size 4 = .ok (.bipush 84, 2) := by decide +kernel
theorem dX10_size_6 : decode cX10_size 6 = .ok (.iaload, 1) := by decide +kernel
theorem dX10_size_7 : decode cX10_size 7 = .ok (.ireturn, 1) := by decide +kernel
theorem dX10_entry_0 : decode cX10_entry 0 = .ok (.aload_n 0, 1) := by decide +kernel
theorem dX10_entry_1 : decode cX10_entry 1 = .ok (.iload_n 1, 1) := by decide +kernel
theorem dX10_entry_2 : decode cX10_entry 2 = .ok (.invokevirtual 71, 3) := by decide +kernel
theorem dX10_entry_5 : decode cX10_entry 5 = .ok (.ifCond .eq 25, 3) := by decide +kernel
theorem dX10_entry_8 : decode cX10_entry 8 = .ok (.aload_n 0, 1) := by decide +kernel
theorem dX10_entry_9 : decode cX10_entry 9 = .ok (.iload_n 2, 1) := by decide +kernel
theorem dX10_entry_10 : decode cX10_entry 10 = .ok (.invokevirtual 71, 3) := by decide +kernel
theorem dX10_entry_13 : decode cX10_entry 13 = .ok (.ifCond .eq 17, 3) := by decide +kernel
theorem dX10_entry_16 : decode cX10_entry 16 = .ok (.aload_n 0, 1) := by decide +kernel
theorem dX10_entry_17 : decode cX10_entry 17 = .ok (.getfield 7, 3) := by decide +kernel
theorem dX10_entry_20 : decode cX10_entry 20 = .ok (.bipush 6, 2) := by decide +kernel
theorem dX10_entry_22 : decode cX10_entry 22 = .ok (.iload_n 1, 1) := by decide +kernel
theorem dX10_entry_23 : decode cX10_entry 23 = .ok (.imul, 1) := by decide +kernel
theorem dX10_entry_24 : decode cX10_entry 24 = .ok (.iload_n 2, 1) := by decide +kernel
theorem dX10_entry_25 : decode cX10_entry 25 = .ok (.iadd, 1) := by decide +kernel
theorem dX10_entry_26 : decode cX10_entry 26 = .ok (.iaload, 1) := by decide +kernel
theorem dX10_entry_27 : decode cX10_entry 27 = .ok (.goto 4, 3) := by decide +kernel
theorem dX10_entry_30 : decode cX10_entry 30 = .ok (.iconst (-1), 1) := by decide +kernel
theorem dX10_entry_31 : decode cX10_entry 31 = .ok (.ireturn, 1) := by decide +kernel
theorem dX10_quotient_0 : decode cX10_quotient 0 = .ok (.aload_n 0, 1) := by decide +kernel
theorem dX10_quotient_1 : decode cX10_quotient 1 = .ok (.iload_n 1, 1) := by decide +kernel
theorem dX10_quotient_2 : decode cX10_quotient 2 = .ok (.invokevirtual 71, 3) := by decide +kernel
theorem dX10_quotient_5 : decode cX10_quotient 5 = .ok (.ifCond .eq 11, 3) := by decide +kernel
theorem dX10_quotient_8 : decode cX10_quotient 8 = .ok (.aload_n 0, 1) := by decide +kernel
theorem dX10_quotient_9 : decode cX10_quotient 9 = .ok (.iload_n 2, 1) := by decide +kernel
theorem dX10_quotient_10 : decode cX10_quotient 10 = .ok (.invokevirtual 71, 3) := by decide +kernel
theorem dX10_quotient_13 : decode cX10_quotient 13 = .ok (.ifCond .ne 5, 3) := by decide +kernel
theorem dX10_quotient_16 : decode cX10_quotient 16 = .ok (.iconst (-1), 1) := by decide +kernel
theorem dX10_quotient_17 : decode cX10_quotient 17 = .ok (.ireturn, 1) := by decide +kernel
theorem dX10_quotient_18 : decode cX10_quotient 18 = .ok (.aload_n 0, 1) := by decide +kernel
theorem dX10_quotient_19 : decode cX10_quotient 19 = .ok (.invokevirtual 67, 3) := by decide +kernel
theorem dX10_quotient_22 : decode cX10_quotient 22 = .ok (.bipush (-4), 2) := by decide +kernel
theorem dX10_quotient_24 : decode cX10_quotient 24 = .ok (.if_icmp .ne 17, 3) := by decide +kernel
theorem dX10_quotient_27 : decode cX10_quotient 27 = .ok (.aload_n 0, 1) := by decide +kernel
theorem dX10_quotient_28 : decode cX10_quotient 28 = .ok (.getfield 16, 3) := by decide +kernel
theorem dX10_quotient_31 : decode cX10_quotient 31 = .ok (.bipush 6, 2) := by decide +kernel
theorem dX10_quotient_33 : decode cX10_quotient 33 = .ok (.iload_n 1, 1) := by decide +kernel
theorem dX10_quotient_34 : decode cX10_quotient 34 = .ok (.imul, 1) := by decide +kernel
theorem dX10_quotient_35 : decode cX10_quotient 35 = .ok (.iload_n 2, 1) := by decide +kernel
theorem dX10_quotient_36 : decode cX10_quotient 36 = .ok (.iadd, 1) := by decide +kernel
theorem dX10_quotient_37 : decode cX10_quotient 37 = .ok (.iaload, 1) := by decide +kernel
theorem dX10_quotient_38 : decode cX10_quotient 38 = .ok (.goto 5, 3) := by decide +kernel
theorem dX10_quotient_41 : decode cX10_quotient 41 = .ok (.bipush (-2), 2) := by decide +kernel
theorem dX10_quotient_43 : decode cX10_quotient 43 = .ok (.ireturn, 1) := by decide +kernel
theorem dX10_nonInvertibleColumn_0 : decode cX10_nonInvertibleColumn 0 = .ok (.aload_n 0, 1) := by decide +kernel
theorem dX10_nonInvertibleColumn_1 : decode cX10_nonInvertibleColumn 1 = .ok (.invokevirtual 67, 3) := by decide +kernel
theorem dX10_nonInvertibleColumn_4 : decode cX10_nonInvertibleColumn 4 = .ok (.ireturn, 1) := by decide +kernel
theorem dX10_of_0 : decode cX10_of 0 = .ok (.aload_n 0, 1) := by decide +kernel
theorem dX10_of_1 : decode cX10_of 1 = .ok (.getfield 7, 3) := by decide +kernel
theorem dX10_of_4 : decode cX10_of 4 = .ok (.bipush 6, 2) := by decide +kernel
theorem dX10_of_6 : decode cX10_of 6 = .ok (.iload_n 1, 1) := by decide +kernel
theorem dX10_of_7 : decode cX10_of 7 = .ok (.imul, 1) := by decide +kernel
theorem dX10_of_8 : decode cX10_of 8 = .ok (.iload_n 2, 1) := by decide +kernel
theorem dX10_of_9 : decode cX10_of 9 = .ok (.iadd, 1) := by decide +kernel
theorem dX10_of_10 : decode cX10_of 10 = .ok (.iaload, 1) := by decide +kernel
theorem dX10_of_11 : decode cX10_of 11 = .ok (.ireturn, 1) := by decide +kernel
theorem dX10_weightOf_0 : decode cX10_weightOf 0 = .ok (.aload_n 0, 1) := by decide +kernel
theorem dX10_weightOf_1 : decode cX10_weightOf 1 = .ok (.getfield 7, 3) := by decide +kernel
theorem dX10_weightOf_4 : decode cX10_weightOf 4 = .ok (.bipush 36, 2) := by decide +kernel
theorem dX10_weightOf_6 : decode cX10_weightOf 6 = .ok (.bipush 6, 2) := by decide +kernel
theorem dX10_weightOf_8 : decode cX10_weightOf 8 = .ok (.iload_n 1, 1) := by decide +kernel
theorem dX10_weightOf_9 : decode cX10_weightOf 9 = .ok (.imul, 1) := by decide +kernel
theorem dX10_weightOf_10 : decode cX10_weightOf 10 = .ok (.iadd, 1) := by decide +kernel
theorem dX10_weightOf_11 : decode cX10_weightOf 11 = .ok (.iload_n 2, 1) := by decide +kernel
theorem dX10_weightOf_12 : decode cX10_weightOf 12 = .ok (.iadd, 1) := by decide +kernel
theorem dX10_weightOf_13 : decode cX10_weightOf 13 = .ok (.iaload, 1) := by decide +kernel
theorem dX10_weightOf_14 : decode cX10_weightOf 14 = .ok (.ireturn, 1) := by decide +kernel
theorem dX10_violation_0 : decode cX10_violation 0 = .ok (.aload_n 0, 1) := by decide +kernel
theorem dX10_violation_1 : decode cX10_violation 1 = .ok (.getfield 7, 3) := by decide +kernel
theorem dX10_violation_4 : decode cX10_violation 4 = .ok (.bipush 84, 2) := by decide +kernel
theorem dX10_violation_6 : decode cX10_violation 6 = .ok (.iaload, 1) := by decide +kernel
theorem dX10_violation_7 : decode cX10_violation 7 = .ok (.istore_n 2, 1) := by decide +kernel
theorem dX10_violation_8 : decode cX10_violation 8 = .ok (.iconst 0, 1) := by decide +kernel
theorem dX10_violation_9 : decode cX10_violation 9 = .ok (.istore_n 3, 1) := by decide +kernel
theorem dX10_violation_10 : decode cX10_violation 10 = .ok (.iload_n 3, 1) := by decide +kernel
theorem dX10_violation_11 : decode cX10_violation 11 = .ok (.sipush 216, 3) := by decide +kernel
theorem dX10_violation_14 : decode cX10_violation 14 = .ok (.if_icmp .ge 175, 3) := by decide +kernel
theorem dX10_violation_17 : decode cX10_violation 17 = .ok (.iload_n 3, 1) := by decide +kernel
theorem dX10_violation_18 : decode cX10_violation 18 = .ok (.bipush 36, 2) := by decide +kernel
theorem dX10_violation_20 : decode cX10_violation 20 = .ok (.idiv, 1) := by decide +kernel
theorem dX10_violation_21 : decode cX10_violation 21 = .ok (.istore 4, 2) := by decide +kernel
theorem dX10_violation_23 : decode cX10_violation 23 = .ok (.iload_n 3, 1) := by decide +kernel
theorem dX10_violation_24 : decode cX10_violation 24 = .ok (.bipush 6, 2) := by decide +kernel
theorem dX10_violation_26 : decode cX10_violation 26 = .ok (.idiv, 1) := by decide +kernel
theorem dX10_violation_27 : decode cX10_violation 27 = .ok (.bipush 6, 2) := by decide +kernel
theorem dX10_violation_29 : decode cX10_violation 29 = .ok (.irem, 1) := by decide +kernel
theorem dX10_violation_30 : decode cX10_violation 30 = .ok (.istore 5, 2) := by decide +kernel
theorem dX10_violation_32 : decode cX10_violation 32 = .ok (.iload_n 3, 1) := by decide +kernel
theorem dX10_violation_33 : decode cX10_violation 33 = .ok (.bipush 6, 2) := by decide +kernel
theorem dX10_violation_35 : decode cX10_violation 35 = .ok (.irem, 1) := by decide +kernel
theorem dX10_violation_36 : decode cX10_violation 36 = .ok (.istore 6, 2) := by decide +kernel
theorem dX10_violation_38 : decode cX10_violation 38 = .ok (.iload 4, 2) := by decide +kernel
theorem dX10_violation_40 : decode cX10_violation 40 = .ok (.iload_n 2, 1) := by decide +kernel
theorem dX10_violation_41 : decode cX10_violation 41 = .ok (.if_icmp .ge 142, 3) := by decide +kernel
theorem dX10_violation_44 : decode cX10_violation 44 = .ok (.iload 5, 2) := by decide +kernel
theorem dX10_violation_46 : decode cX10_violation 46 = .ok (.iload_n 2, 1) := by decide +kernel
theorem dX10_violation_47 : decode cX10_violation 47 = .ok (.if_icmp .ge 136, 3) := by decide +kernel
theorem dX10_violation_50 : decode cX10_violation 50 = .ok (.iload 6, 2) := by decide +kernel
theorem dX10_violation_52 : decode cX10_violation 52 = .ok (.iload_n 2, 1) := by decide +kernel
theorem dX10_violation_53 : decode cX10_violation 53 = .ok (.if_icmp .ge 130, 3) := by decide +kernel
theorem dX10_violation_56 : decode cX10_violation 56 = .ok (.iload_n 1, 1) := by decide +kernel
theorem dX10_violation_57 : decode cX10_violation 57 = .ok (.ifCond .eq 75, 3) := by decide +kernel
theorem dX10_violation_60 : decode cX10_violation 60 = .ok (.aload_n 0, 1) := by decide +kernel
theorem dX10_violation_61 : decode cX10_violation 61 = .ok (.iload 4, 2) := by decide +kernel
theorem dX10_violation_63 : decode cX10_violation 63 = .ok (.iload 5, 2) := by decide +kernel
theorem dX10_violation_65 : decode cX10_violation 65 = .ok (.invokevirtual 75, 3) := by decide +kernel
theorem dX10_violation_68 : decode cX10_violation 68 = .ok (.aload_n 0, 1) := by decide +kernel
theorem dX10_violation_69 : decode cX10_violation 69 = .ok (.aload_n 0, 1) := by decide +kernel
theorem dX10_violation_70 : decode cX10_violation 70 = .ok (.iload 4, 2) := by decide +kernel
theorem dX10_violation_72 : decode cX10_violation 72 = .ok (.iload 5, 2) := by decide +kernel
theorem dX10_violation_74 : decode cX10_violation 74 = .ok (.invokevirtual 78, 3) := by decide +kernel
theorem dX10_violation_77 : decode cX10_violation 77 = .ok (.iload 6, 2) := by decide +kernel
theorem dX10_violation_79 : decode cX10_violation 79 = .ok (.invokevirtual 75, 3) := by decide +kernel
theorem dX10_violation_82 : decode cX10_violation 82 = .ok (.iadd, 1) := by decide +kernel
theorem dX10_violation_83 : decode cX10_violation 83 = .ok (.aload_n 0, 1) := by decide +kernel
theorem dX10_violation_84 : decode cX10_violation 84 = .ok (.iload 4, 2) := by decide +kernel
theorem dX10_violation_86 : decode cX10_violation 86 = .ok (.iload 6, 2) := by decide +kernel
theorem dX10_violation_88 : decode cX10_violation 88 = .ok (.invokevirtual 75, 3) := by decide +kernel
theorem dX10_violation_91 : decode cX10_violation 91 = .ok (.isub, 1) := by decide +kernel
theorem dX10_violation_92 : decode cX10_violation 92 = .ok (.aload_n 0, 1) := by decide +kernel
theorem dX10_violation_93 : decode cX10_violation 93 = .ok (.aload_n 0, 1) := by decide +kernel
theorem dX10_violation_94 : decode cX10_violation 94 = .ok (.iload 4, 2) := by decide +kernel
theorem dX10_violation_96 : decode cX10_violation 96 = .ok (.iload 6, 2) := by decide +kernel
theorem dX10_violation_98 : decode cX10_violation 98 = .ok (.invokevirtual 78, 3) := by decide +kernel
theorem dX10_violation_101 : decode cX10_violation 101 = .ok (.aload_n 0, 1) := by decide +kernel
theorem dX10_violation_102 : decode cX10_violation 102 = .ok (.iload 5, 2) := by decide +kernel
theorem dX10_violation_104 : decode cX10_violation 104 = .ok (.iload 6, 2) := by decide +kernel
theorem dX10_violation_106 : decode cX10_violation 106 = .ok (.invokevirtual 78, 3) := by decide +kernel
theorem dX10_violation_109 : decode cX10_violation 109 = .ok (.invokevirtual 75, 3) := by decide +kernel
theorem dX10_violation_112 : decode cX10_violation 112 = .ok (.isub, 1) := by decide +kernel
theorem dX10_violation_113 : decode cX10_violation 113 = .ok (.aload_n 0, 1) := by decide +kernel
theorem dX10_violation_114 : decode cX10_violation 114 = .ok (.getfield 7, 3) := by decide +kernel
theorem dX10_violation_117 : decode cX10_violation 117 = .ok (.bipush 87, 2) := by decide +kernel
theorem dX10_violation_119 : decode cX10_violation 119 = .ok (.iaload, 1) := by decide +kernel
theorem dX10_violation_120 : decode cX10_violation 120 = .ok (.irem, 1) := by decide +kernel
theorem dX10_violation_121 : decode cX10_violation 121 = .ok (.ifCond .ne 7, 3) := by decide +kernel
theorem dX10_violation_124 : decode cX10_violation 124 = .ok (.iconst 1, 1) := by decide +kernel
theorem dX10_violation_125 : decode cX10_violation 125 = .ok (.goto 49, 3) := by decide +kernel
theorem dX10_violation_128 : decode cX10_violation 128 = .ok (.iconst 0, 1) := by decide +kernel
theorem dX10_violation_129 : decode cX10_violation 129 = .ok (.goto 45, 3) := by decide +kernel
theorem dX10_violation_132 : decode cX10_violation 132 = .ok (.aload_n 0, 1) := by decide +kernel
theorem dX10_violation_133 : decode cX10_violation 133 = .ok (.aload_n 0, 1) := by decide +kernel
theorem dX10_violation_134 : decode cX10_violation 134 = .ok (.iload 4, 2) := by decide +kernel
theorem dX10_violation_136 : decode cX10_violation 136 = .ok (.iload 5, 2) := by decide +kernel
theorem dX10_violation_138 : decode cX10_violation 138 = .ok (.invokevirtual 78, 3) := by decide +kernel
theorem dX10_violation_141 : decode cX10_violation 141 = .ok (.iload 6, 2) := by decide +kernel
theorem dX10_violation_143 : decode cX10_violation 143 = .ok (.invokevirtual 78, 3) := by decide +kernel
theorem dX10_violation_146 : decode cX10_violation 146 = .ok (.aload_n 0, 1) := by decide +kernel
theorem dX10_violation_147 : decode cX10_violation 147 = .ok (.aload_n 0, 1) := by decide +kernel
theorem dX10_violation_148 : decode cX10_violation 148 = .ok (.iload 4, 2) := by decide +kernel
theorem dX10_violation_150 : decode cX10_violation 150 = .ok (.iload 6, 2) := by decide +kernel
theorem dX10_violation_152 : decode cX10_violation 152 = .ok (.invokevirtual 78, 3) := by decide +kernel
theorem dX10_violation_155 : decode cX10_violation 155 = .ok (.aload_n 0, 1) := by decide +kernel
theorem dX10_violation_156 : decode cX10_violation 156 = .ok (.iload 5, 2) := by decide +kernel
theorem dX10_violation_158 : decode cX10_violation 158 = .ok (.iload 6, 2) := by decide +kernel
theorem dX10_violation_160 : decode cX10_violation 160 = .ok (.invokevirtual 78, 3) := by decide +kernel
theorem dX10_violation_163 : decode cX10_violation 163 = .ok (.invokevirtual 78, 3) := by decide +kernel
theorem dX10_violation_166 : decode cX10_violation 166 = .ok (.if_icmp .ne 7, 3) := by decide +kernel
theorem dX10_violation_169 : decode cX10_violation 169 = .ok (.iconst 1, 1) := by decide +kernel
theorem dX10_violation_170 : decode cX10_violation 170 = .ok (.goto 4, 3) := by decide +kernel
theorem dX10_violation_173 : decode cX10_violation 173 = .ok (.iconst 0, 1) := by decide +kernel
theorem dX10_violation_174 : decode cX10_violation 174 = .ok (.istore 7, 2) := by decide +kernel
theorem dX10_violation_176 : decode cX10_violation 176 = .ok (.iload 7, 2) := by decide +kernel
theorem dX10_violation_178 : decode cX10_violation 178 = .ok (.ifCond .ne 5, 3) := by decide +kernel
theorem dX10_violation_181 : decode cX10_violation 181 = .ok (.iload_n 3, 1) := by decide +kernel
theorem dX10_violation_182 : decode cX10_violation 182 = .ok (.ireturn, 1) := by decide +kernel
theorem dX10_violation_183 : decode cX10_violation 183 = .ok (.iinc 3 1, 3) := by decide +kernel
theorem dX10_violation_186 : decode cX10_violation 186 = .ok (.goto (-176), 3) := by decide +kernel
theorem dX10_violation_189 : decode cX10_violation 189 = .ok (.bipush (-4), 2) := by decide +kernel
theorem dX10_violation_191 : decode cX10_violation 191 = .ok (.ireturn, 1) := by decide +kernel
theorem dX10_distributivityViolation_0 : decode cX10_distributivityViolation 0 = .ok (.aload_n 0, 1) := by decide +kernel
theorem dX10_distributivityViolation_1 : decode cX10_distributivityViolation 1 = .ok (.iconst 0, 1) := by decide +kernel
theorem dX10_distributivityViolation_2 : decode cX10_distributivityViolation 2 = .ok (.invokevirtual 81, 3) := by decide +kernel
theorem dX10_distributivityViolation_5 : decode cX10_distributivityViolation 5 = .ok (.ireturn, 1) := by decide +kernel
theorem dX10_idempotencyViolation_0 : decode cX10_idempotencyViolation 0 = .ok (.iconst 0, 1) := by decide +kernel
theorem dX10_idempotencyViolation_1 : decode cX10_idempotencyViolation 1 = .ok (.istore_n 1, 1) := by decide +kernel
theorem dX10_idempotencyViolation_2 : decode cX10_idempotencyViolation 2 = .ok (.iload_n 1, 1) := by decide +kernel
theorem dX10_idempotencyViolation_3 : decode cX10_idempotencyViolation 3 = .ok (.aload_n 0, 1) := by decide +kernel
theorem dX10_idempotencyViolation_4 : decode cX10_idempotencyViolation 4 = .ok (.getfield 7, 3) := by decide +kernel
theorem dX10_idempotencyViolation_7 : decode cX10_idempotencyViolation 7 = .ok (.bipush 84, 2) := by decide +kernel
theorem dX10_idempotencyViolation_9 : decode cX10_idempotencyViolation 9 = .ok (.iaload, 1) := by decide +kernel
theorem dX10_idempotencyViolation_10 : decode cX10_idempotencyViolation 10 = .ok (.if_icmp .ge 19, 3) := by decide +kernel
theorem dX10_idempotencyViolation_13 : decode cX10_idempotencyViolation 13 = .ok (.aload_n 0, 1) := by decide +kernel
theorem dX10_idempotencyViolation_14 : decode cX10_idempotencyViolation 14 = .ok (.iload_n 1, 1) := by decide +kernel
theorem dX10_idempotencyViolation_15 : decode cX10_idempotencyViolation 15 = .ok (.iload_n 1, 1) := by decide +kernel
theorem dX10_idempotencyViolation_16 : decode cX10_idempotencyViolation 16 = .ok (.invokevirtual 78, 3) := by decide +kernel
theorem dX10_idempotencyViolation_19 : decode cX10_idempotencyViolation 19 = .ok (.iload_n 1, 1) := by decide +kernel
theorem dX10_idempotencyViolation_20 : decode cX10_idempotencyViolation 20 = .ok (.if_icmp .ne 9, 3) := by decide +kernel
theorem dX10_idempotencyViolation_23 : decode cX10_idempotencyViolation 23 = .ok (.iinc 1 1, 3) := by decide +kernel
theorem dX10_idempotencyViolation_26 : decode cX10_idempotencyViolation 26 = .ok (.goto (-24), 3) := by decide +kernel
theorem dX10_idempotencyViolation_29 : decode cX10_idempotencyViolation 29 = .ok (.iload_n 1, 1) := by decide +kernel
theorem dX10_idempotencyViolation_30 : decode cX10_idempotencyViolation 30 = .ok (.aload_n 0, 1) := by decide +kernel
theorem dX10_idempotencyViolation_31 : decode cX10_idempotencyViolation 31 = .ok (.getfield 7, 3) := by decide +kernel
theorem dX10_idempotencyViolation_34 : decode cX10_idempotencyViolation 34 = .ok (.bipush 84, 2) := by decide +kernel
theorem dX10_idempotencyViolation_36 : decode cX10_idempotencyViolation 36 = .ok (.iaload, 1) := by decide +kernel
theorem dX10_idempotencyViolation_37 : decode cX10_idempotencyViolation 37 = .ok (.if_icmp .ge 7, 3) := by decide +kernel
theorem dX10_idempotencyViolation_40 : decode cX10_idempotencyViolation 40 = .ok (.iload_n 1, 1) := by decide +kernel
theorem dX10_idempotencyViolation_41 : decode cX10_idempotencyViolation 41 = .ok (.goto 5, 3) := by decide +kernel
theorem dX10_idempotencyViolation_44 : decode cX10_idempotencyViolation 44 = .ok (.bipush (-4), 2) := by decide +kernel
theorem dX10_idempotencyViolation_46 : decode cX10_idempotencyViolation 46 = .ok (.ireturn, 1) := by decide +kernel
theorem dX10_kind_0 : decode cX10_kind 0 = .ok (.aload_n 0, 1) := by decide +kernel
theorem dX10_kind_1 : decode cX10_kind 1 = .ok (.invokevirtual 67, 3) := by decide +kernel
theorem dX10_kind_4 : decode cX10_kind 4 = .ok (.bipush (-4), 2) := by decide +kernel
theorem dX10_kind_6 : decode cX10_kind 6 = .ok (.if_icmp .ne 13, 3) := by decide +kernel
theorem dX10_kind_9 : decode cX10_kind 9 = .ok (.aload_n 0, 1) := by decide +kernel
theorem dX10_kind_10 : decode cX10_kind 10 = .ok (.iconst 0, 1) := by decide +kernel
theorem dX10_kind_11 : decode cX10_kind 11 = .ok (.invokevirtual 81, 3) := by decide +kernel
theorem dX10_kind_14 : decode cX10_kind 14 = .ok (.bipush (-4), 2) := by decide +kernel
theorem dX10_kind_16 : decode cX10_kind 16 = .ok (.if_icmp .eq 5, 3) := by decide +kernel
theorem dX10_kind_19 : decode cX10_kind 19 = .ok (.iconst 0, 1) := by decide +kernel
theorem dX10_kind_20 : decode cX10_kind 20 = .ok (.ireturn, 1) := by decide +kernel
theorem dX10_kind_21 : decode cX10_kind 21 = .ok (.aload_n 0, 1) := by decide +kernel
theorem dX10_kind_22 : decode cX10_kind 22 = .ok (.invokevirtual 85, 3) := by decide +kernel
theorem dX10_kind_25 : decode cX10_kind 25 = .ok (.bipush (-4), 2) := by decide +kernel
theorem dX10_kind_27 : decode cX10_kind 27 = .ok (.if_icmp .ne 7, 3) := by decide +kernel
theorem dX10_kind_30 : decode cX10_kind 30 = .ok (.iconst 2, 1) := by decide +kernel
theorem dX10_kind_31 : decode cX10_kind 31 = .ok (.goto 4, 3) := by decide +kernel
theorem dX10_kind_34 : decode cX10_kind 34 = .ok (.iconst 1, 1) := by decide +kernel
theorem dX10_kind_35 : decode cX10_kind 35 = .ok (.ireturn, 1) := by decide +kernel
theorem dX10_orbit_0 : decode cX10_orbit 0 = .ok (.aload_n 0, 1) := by decide +kernel
theorem dX10_orbit_1 : decode cX10_orbit 1 = .ok (.iload_n 1, 1) := by decide +kernel
theorem dX10_orbit_2 : decode cX10_orbit 2 = .ok (.invokevirtual 71, 3) := by decide +kernel
theorem dX10_orbit_5 : decode cX10_orbit 5 = .ok (.ifCond .ne 5, 3) := by decide +kernel
theorem dX10_orbit_8 : decode cX10_orbit 8 = .ok (.iconst (-1), 1) := by decide +kernel
theorem dX10_orbit_9 : decode cX10_orbit 9 = .ok (.ireturn, 1) := by decide +kernel
theorem dX10_orbit_10 : decode cX10_orbit 10 = .ok (.aload_n 0, 1) := by decide +kernel
theorem dX10_orbit_11 : decode cX10_orbit 11 = .ok (.invokevirtual 67, 3) := by decide +kernel
theorem dX10_orbit_14 : decode cX10_orbit 14 = .ok (.bipush (-4), 2) := by decide +kernel
theorem dX10_orbit_16 : decode cX10_orbit 16 = .ok (.if_icmp .ne 7, 3) := by decide +kernel
theorem dX10_orbit_19 : decode cX10_orbit 19 = .ok (.iconst 1, 1) := by decide +kernel
theorem dX10_orbit_20 : decode cX10_orbit 20 = .ok (.goto 4, 3) := by decide +kernel
theorem dX10_orbit_23 : decode cX10_orbit 23 = .ok (.iconst 0, 1) := by decide +kernel
theorem dX10_orbit_24 : decode cX10_orbit 24 = .ok (.istore_n 2, 1) := by decide +kernel
theorem dX10_orbit_25 : decode cX10_orbit 25 = .ok (.iconst 1, 1) := by decide +kernel
theorem dX10_orbit_26 : decode cX10_orbit 26 = .ok (.iload_n 1, 1) := by decide +kernel
theorem dX10_orbit_27 : decode cX10_orbit 27 = .ok (.ishl, 1) := by decide +kernel
theorem dX10_orbit_28 : decode cX10_orbit 28 = .ok (.istore_n 3, 1) := by decide +kernel
theorem dX10_orbit_29 : decode cX10_orbit 29 = .ok (.iconst 0, 1) := by decide +kernel
theorem dX10_orbit_30 : decode cX10_orbit 30 = .ok (.istore 4, 2) := by decide +kernel
theorem dX10_orbit_32 : decode cX10_orbit 32 = .ok (.iload 4, 2) := by decide +kernel
theorem dX10_orbit_34 : decode cX10_orbit 34 = .ok (.iload_n 3, 1) := by decide +kernel
theorem dX10_orbit_35 : decode cX10_orbit 35 = .ok (.if_icmp .eq 99, 3) := by decide +kernel
theorem dX10_orbit_38 : decode cX10_orbit 38 = .ok (.iload_n 3, 1) := by decide +kernel
theorem dX10_orbit_39 : decode cX10_orbit 39 = .ok (.istore 4, 2) := by decide +kernel
theorem dX10_orbit_41 : decode cX10_orbit 41 = .ok (.iconst 0, 1) := by decide +kernel
theorem dX10_orbit_42 : decode cX10_orbit 42 = .ok (.istore 5, 2) := by decide +kernel
theorem dX10_orbit_44 : decode cX10_orbit 44 = .ok (.iload 5, 2) := by decide +kernel
theorem dX10_orbit_46 : decode cX10_orbit 46 = .ok (.aload_n 0, 1) := by decide +kernel
theorem dX10_orbit_47 : decode cX10_orbit 47 = .ok (.getfield 7, 3) := by decide +kernel
theorem dX10_orbit_50 : decode cX10_orbit 50 = .ok (.bipush 84, 2) := by decide +kernel
theorem dX10_orbit_52 : decode cX10_orbit 52 = .ok (.iaload, 1) := by decide +kernel
theorem dX10_orbit_53 : decode cX10_orbit 53 = .ok (.if_icmp .ge 78, 3) := by decide +kernel
theorem dX10_orbit_56 : decode cX10_orbit 56 = .ok (.iconst 0, 1) := by decide +kernel
theorem dX10_orbit_57 : decode cX10_orbit 57 = .ok (.istore 6, 2) := by decide +kernel
theorem dX10_orbit_59 : decode cX10_orbit 59 = .ok (.iload 6, 2) := by decide +kernel
theorem dX10_orbit_61 : decode cX10_orbit 61 = .ok (.aload_n 0, 1) := by decide +kernel
theorem dX10_orbit_62 : decode cX10_orbit 62 = .ok (.getfield 7, 3) := by decide +kernel
theorem dX10_orbit_65 : decode cX10_orbit 65 = .ok (.bipush 84, 2) := by decide +kernel
theorem dX10_orbit_67 : decode cX10_orbit 67 = .ok (.iaload, 1) := by decide +kernel
theorem dX10_orbit_68 : decode cX10_orbit 68 = .ok (.if_icmp .ge 57, 3) := by decide +kernel
theorem dX10_orbit_71 : decode cX10_orbit 71 = .ok (.iload 4, 2) := by decide +kernel
theorem dX10_orbit_73 : decode cX10_orbit 73 = .ok (.iload 5, 2) := by decide +kernel
theorem dX10_orbit_75 : decode cX10_orbit 75 = .ok (.ishr, 1) := by decide +kernel
theorem dX10_orbit_76 : decode cX10_orbit 76 = .ok (.iconst 1, 1) := by decide +kernel
theorem dX10_orbit_77 : decode cX10_orbit 77 = .ok (.iand, 1) := by decide +kernel
theorem dX10_orbit_78 : decode cX10_orbit 78 = .ok (.iconst 1, 1) := by decide +kernel
theorem dX10_orbit_79 : decode cX10_orbit 79 = .ok (.if_icmp .ne 46, 3) := by decide +kernel
theorem dX10_orbit_82 : decode cX10_orbit 82 = .ok (.iload_n 3, 1) := by decide +kernel
theorem dX10_orbit_83 : decode cX10_orbit 83 = .ok (.iconst 1, 1) := by decide +kernel
theorem dX10_orbit_84 : decode cX10_orbit 84 = .ok (.aload_n 0, 1) := by decide +kernel
theorem dX10_orbit_85 : decode cX10_orbit 85 = .ok (.iload 5, 2) := by decide +kernel
theorem dX10_orbit_87 : decode cX10_orbit 87 = .ok (.iload 6, 2) := by decide +kernel
theorem dX10_orbit_89 : decode cX10_orbit 89 = .ok (.invokevirtual 78, 3) := by decide +kernel
theorem dX10_orbit_92 : decode cX10_orbit 92 = .ok (.ishl, 1) := by decide +kernel
theorem dX10_orbit_93 : decode cX10_orbit 93 = .ok (.iload_n 2, 1) := by decide +kernel
theorem dX10_orbit_94 : decode cX10_orbit 94 = .ok (.ifCond .eq 21, 3) := by decide +kernel
theorem dX10_orbit_97 : decode cX10_orbit 97 = .ok (.iconst 1, 1) := by decide +kernel
theorem dX10_orbit_98 : decode cX10_orbit 98 = .ok (.aload_n 0, 1) := by decide +kernel
theorem dX10_orbit_99 : decode cX10_orbit 99 = .ok (.getfield 16, 3) := by decide +kernel
theorem dX10_orbit_102 : decode cX10_orbit 102 = .ok (.bipush 6, 2) := by decide +kernel
theorem dX10_orbit_104 : decode cX10_orbit 104 = .ok (.iload 5, 2) := by decide +kernel
theorem dX10_orbit_106 : decode cX10_orbit 106 = .ok (.imul, 1) := by decide +kernel
theorem dX10_orbit_107 : decode cX10_orbit 107 = .ok (.iload 6, 2) := by decide +kernel
theorem dX10_orbit_109 : decode cX10_orbit 109 = .ok (.iadd, 1) := by decide +kernel
theorem dX10_orbit_110 : decode cX10_orbit 110 = .ok (.iaload, 1) := by decide +kernel
theorem dX10_orbit_111 : decode cX10_orbit 111 = .ok (.ishl, 1) := by decide +kernel
theorem dX10_orbit_112 : decode cX10_orbit 112 = .ok (.goto 4, 3) := by decide +kernel
theorem dX10_orbit_115 : decode cX10_orbit 115 = .ok (.iconst 0, 1) := by decide +kernel
theorem dX10_orbit_116 : decode cX10_orbit 116 = .ok (.ior, 1) := by decide +kernel
theorem dX10_orbit_117 : decode cX10_orbit 117 = .ok (.ior, 1) := by decide +kernel
theorem dX10_orbit_118 : decode cX10_orbit 118 = .ok (.istore_n 3, 1) := by decide +kernel
theorem dX10_orbit_119 : decode cX10_orbit 119 = .ok (.iinc 6 1, 3) := by decide +kernel
theorem dX10_orbit_122 : decode cX10_orbit 122 = .ok (.goto (-63), 3) := by decide +kernel
theorem dX10_orbit_125 : decode cX10_orbit 125 = .ok (.iinc 5 1, 3) := by decide +kernel
theorem dX10_orbit_128 : decode cX10_orbit 128 = .ok (.goto (-84), 3) := by decide +kernel
theorem dX10_orbit_131 : decode cX10_orbit 131 = .ok (.goto (-99), 3) := by decide +kernel
theorem dX10_orbit_134 : decode cX10_orbit 134 = .ok (.iload_n 3, 1) := by decide +kernel
theorem dX10_orbit_135 : decode cX10_orbit 135 = .ok (.ireturn, 1) := by decide +kernel
theorem dX10_innerGroupOrder_0 : decode cX10_innerGroupOrder 0 = .ok (.aload_n 0, 1) := by decide +kernel
theorem dX10_innerGroupOrder_1 : decode cX10_innerGroupOrder 1 = .ok (.invokevirtual 67, 3) := by decide +kernel
theorem dX10_innerGroupOrder_4 : decode cX10_innerGroupOrder 4 = .ok (.bipush (-4), 2) := by decide +kernel
theorem dX10_innerGroupOrder_6 : decode cX10_innerGroupOrder 6 = .ok (.if_icmp .eq 6, 3) := by decide +kernel
theorem dX10_innerGroupOrder_9 : decode cX10_innerGroupOrder 9 = .ok (.bipush (-2), 2) := by decide +kernel
theorem dX10_innerGroupOrder_11 : decode cX10_innerGroupOrder 11 = .ok (.ireturn, 1) := by decide +kernel
theorem dX10_innerGroupOrder_12 : decode cX10_innerGroupOrder 12 = .ok (.aload_n 0, 1) := by decide +kernel
theorem dX10_innerGroupOrder_13 : decode cX10_innerGroupOrder 13 = .ok (.getfield 7, 3) := by decide +kernel
theorem dX10_innerGroupOrder_16 : decode cX10_innerGroupOrder 16 = .ok (.bipush 84, 2) := by decide +kernel
theorem dX10_innerGroupOrder_18 : decode cX10_innerGroupOrder 18 = .ok (.iaload, 1) := by decide +kernel
theorem dX10_innerGroupOrder_19 : decode cX10_innerGroupOrder 19 = .ok (.istore_n 1, 1) := by decide +kernel
theorem dX10_innerGroupOrder_20 : decode cX10_innerGroupOrder 20 = .ok (.iconst 0, 1) := by decide +kernel
theorem dX10_innerGroupOrder_21 : decode cX10_innerGroupOrder 21 = .ok (.istore_n 2, 1) := by decide +kernel
theorem dX10_innerGroupOrder_22 : decode cX10_innerGroupOrder 22 = .ok (.iload_n 2, 1) := by decide +kernel
theorem dX10_innerGroupOrder_23 : decode cX10_innerGroupOrder 23 = .ok (.sipush 720, 3) := by decide +kernel
theorem dX10_innerGroupOrder_26 : decode cX10_innerGroupOrder 26 = .ok (.if_icmp .ge 16, 3) := by decide +kernel
theorem dX10_innerGroupOrder_29 : decode cX10_innerGroupOrder 29 = .ok (.aload_n 0, 1) := by decide +kernel
theorem dX10_innerGroupOrder_30 : decode cX10_innerGroupOrder 30 = .ok (.getfield 31, 3) := by decide +kernel
theorem dX10_innerGroupOrder_33 : decode cX10_innerGroupOrder 33 = .ok (.iload_n 2, 1) := by decide +kernel
theorem dX10_innerGroupOrder_34 : decode cX10_innerGroupOrder 34 = .ok (.iconst 0, 1) := by decide +kernel
theorem dX10_innerGroupOrder_35 : decode cX10_innerGroupOrder 35 = .ok (.iastore, 1) := by decide +kernel
theorem dX10_innerGroupOrder_36 : decode cX10_innerGroupOrder 36 = .ok (.iinc 2 1, 3) := by decide +kernel
theorem dX10_innerGroupOrder_39 : decode cX10_innerGroupOrder 39 = .ok (.goto (-17), 3) := by decide +kernel
theorem dX10_innerGroupOrder_42 : decode cX10_innerGroupOrder 42 = .ok (.iconst 0, 1) := by decide +kernel
theorem dX10_innerGroupOrder_43 : decode cX10_innerGroupOrder 43 = .ok (.istore_n 2, 1) := by decide +kernel
theorem dX10_innerGroupOrder_44 : decode cX10_innerGroupOrder 44 = .ok (.iload_n 2, 1) := by decide +kernel
theorem dX10_innerGroupOrder_45 : decode cX10_innerGroupOrder 45 = .ok (.iload_n 1, 1) := by decide +kernel
theorem dX10_innerGroupOrder_46 : decode cX10_innerGroupOrder 46 = .ok (.if_icmp .ge 16, 3) := by decide +kernel
theorem dX10_innerGroupOrder_49 : decode cX10_innerGroupOrder 49 = .ok (.aload_n 0, 1) := by decide +kernel
theorem dX10_innerGroupOrder_50 : decode cX10_innerGroupOrder 50 = .ok (.getfield 34, 3) := by decide +kernel
theorem dX10_innerGroupOrder_53 : decode cX10_innerGroupOrder 53 = .ok (.iload_n 2, 1) := by decide +kernel
theorem dX10_innerGroupOrder_54 : decode cX10_innerGroupOrder 54 = .ok (.iload_n 2, 1) := by decide +kernel
theorem dX10_innerGroupOrder_55 : decode cX10_innerGroupOrder 55 = .ok (.iastore, 1) := by decide +kernel
theorem dX10_innerGroupOrder_56 : decode cX10_innerGroupOrder 56 = .ok (.iinc 2 1, 3) := by decide +kernel
theorem dX10_innerGroupOrder_59 : decode cX10_innerGroupOrder 59 = .ok (.goto (-15), 3) := by decide +kernel
theorem dX10_innerGroupOrder_62 : decode cX10_innerGroupOrder 62 = .ok (.aload_n 0, 1) := by decide +kernel
theorem dX10_innerGroupOrder_63 : decode cX10_innerGroupOrder 63 = .ok (.getfield 31, 3) := by decide +kernel
theorem dX10_innerGroupOrder_66 : decode cX10_innerGroupOrder 66 = .ok (.iconst 0, 1) := by decide +kernel
theorem dX10_innerGroupOrder_67 : decode cX10_innerGroupOrder 67 = .ok (.iconst 1, 1) := by decide +kernel
theorem dX10_innerGroupOrder_68 : decode cX10_innerGroupOrder 68 = .ok (.iastore, 1) := by decide +kernel
theorem dX10_innerGroupOrder_69 : decode cX10_innerGroupOrder 69 = .ok (.iconst 1, 1) := by decide +kernel
theorem dX10_innerGroupOrder_70 : decode cX10_innerGroupOrder 70 = .ok (.istore_n 2, 1) := by decide +kernel
theorem dX10_innerGroupOrder_71 : decode cX10_innerGroupOrder 71 = .ok (.iconst 0, 1) := by decide +kernel
theorem dX10_innerGroupOrder_72 : decode cX10_innerGroupOrder 72 = .ok (.istore_n 3, 1) := by decide +kernel
theorem dX10_innerGroupOrder_73 : decode cX10_innerGroupOrder 73 = .ok (.iload_n 3, 1) := by decide +kernel
theorem dX10_innerGroupOrder_74 : decode cX10_innerGroupOrder 74 = .ok (.iload_n 2, 1) := by decide +kernel
theorem dX10_innerGroupOrder_75 : decode cX10_innerGroupOrder 75 = .ok (.if_icmp .ge 126, 3) := by decide +kernel
theorem dX10_innerGroupOrder_78 : decode cX10_innerGroupOrder 78 = .ok (.iconst 0, 1) := by decide +kernel
theorem dX10_innerGroupOrder_79 : decode cX10_innerGroupOrder 79 = .ok (.istore 4, 2) := by decide +kernel
theorem dX10_innerGroupOrder_81 : decode cX10_innerGroupOrder 81 = .ok (.iload 4, 2) := by decide +kernel
theorem dX10_innerGroupOrder_83 : decode cX10_innerGroupOrder 83 = .ok (.iload_n 1, 1) := by decide +kernel
theorem dX10_innerGroupOrder_84 : decode cX10_innerGroupOrder 84 = .ok (.if_icmp .ge 111, 3) := by decide +kernel
theorem dX10_innerGroupOrder_87 : decode cX10_innerGroupOrder 87 = .ok (.iconst 0, 1) := by decide +kernel
theorem dX10_innerGroupOrder_88 : decode cX10_innerGroupOrder 88 = .ok (.istore 5, 2) := by decide +kernel
theorem dX10_innerGroupOrder_90 : decode cX10_innerGroupOrder 90 = .ok (.iload 5, 2) := by decide +kernel
theorem dX10_innerGroupOrder_92 : decode cX10_innerGroupOrder 92 = .ok (.iload_n 1, 1) := by decide +kernel
theorem dX10_innerGroupOrder_93 : decode cX10_innerGroupOrder 93 = .ok (.if_icmp .ge 34, 3) := by decide +kernel
theorem dX10_innerGroupOrder_96 : decode cX10_innerGroupOrder 96 = .ok (.aload_n 0, 1) := by decide +kernel
theorem dX10_innerGroupOrder_97 : decode cX10_innerGroupOrder 97 = .ok (.getfield 25, 3) := by decide +kernel
theorem dX10_innerGroupOrder_100 : decode cX10_innerGroupOrder 100 = .ok (.iload 5, 2) := by decide +kernel
theorem dX10_innerGroupOrder_102 : decode cX10_innerGroupOrder 102 = .ok (.aload_n 0, 1) := by decide +kernel
theorem dX10_innerGroupOrder_103 : decode cX10_innerGroupOrder 103 = .ok (.aload_n 0, 1) := by decide +kernel
theorem dX10_innerGroupOrder_104 : decode cX10_innerGroupOrder 104 = .ok (.getfield 34, 3) := by decide +kernel
theorem dX10_innerGroupOrder_107 : decode cX10_innerGroupOrder 107 = .ok (.bipush 6, 2) := by decide +kernel
theorem dX10_innerGroupOrder_109 : decode cX10_innerGroupOrder 109 = .ok (.iload_n 3, 1) := by decide +kernel
theorem dX10_innerGroupOrder_110 : decode cX10_innerGroupOrder 110 = .ok (.imul, 1) := by decide +kernel
theorem dX10_innerGroupOrder_111 : decode cX10_innerGroupOrder 111 = .ok (.iload 5, 2) := by decide +kernel
theorem dX10_innerGroupOrder_113 : decode cX10_innerGroupOrder 113 = .ok (.iadd, 1) := by decide +kernel
theorem dX10_innerGroupOrder_114 : decode cX10_innerGroupOrder 114 = .ok (.iaload, 1) := by decide +kernel
theorem dX10_innerGroupOrder_115 : decode cX10_innerGroupOrder 115 = .ok (.iload 4, 2) := by decide +kernel
theorem dX10_innerGroupOrder_117 : decode cX10_innerGroupOrder 117 = .ok (.invokevirtual 78, 3) := by decide +kernel
theorem dX10_innerGroupOrder_120 : decode cX10_innerGroupOrder 120 = .ok (.iastore, 1) := by decide +kernel
theorem dX10_innerGroupOrder_121 : decode cX10_innerGroupOrder 121 = .ok (.iinc 5 1, 3) := by decide +kernel
theorem dX10_innerGroupOrder_124 : decode cX10_innerGroupOrder 124 = .ok (.goto (-34), 3) := by decide +kernel
theorem dX10_innerGroupOrder_127 : decode cX10_innerGroupOrder 127 = .ok (.aload_n 0, 1) := by decide +kernel
theorem dX10_innerGroupOrder_128 : decode cX10_innerGroupOrder 128 = .ok (.iload_n 1, 1) := by decide +kernel
theorem dX10_innerGroupOrder_129 : decode cX10_innerGroupOrder 129 = .ok (.invokevirtual 63, 3) := by decide +kernel
theorem dX10_innerGroupOrder_132 : decode cX10_innerGroupOrder 132 = .ok (.istore 5, 2) := by decide +kernel
theorem dX10_innerGroupOrder_134 : decode cX10_innerGroupOrder 134 = .ok (.aload_n 0, 1) := by decide +kernel
theorem dX10_innerGroupOrder_135 : decode cX10_innerGroupOrder 135 = .ok (.getfield 31, 3) := by decide +kernel
theorem dX10_innerGroupOrder_138 : decode cX10_innerGroupOrder 138 = .ok (.iload 5, 2) := by decide +kernel
theorem dX10_innerGroupOrder_140 : decode cX10_innerGroupOrder 140 = .ok (.iaload, 1) := by decide +kernel
theorem dX10_innerGroupOrder_141 : decode cX10_innerGroupOrder 141 = .ok (.ifCond .ne 48, 3) := by decide +kernel
theorem dX10_innerGroupOrder_144 : decode cX10_innerGroupOrder 144 = .ok (.aload_n 0, 1) := by decide +kernel
theorem dX10_innerGroupOrder_145 : decode cX10_innerGroupOrder 145 = .ok (.getfield 31, 3) := by decide +kernel
theorem dX10_innerGroupOrder_148 : decode cX10_innerGroupOrder 148 = .ok (.iload 5, 2) := by decide +kernel
theorem dX10_innerGroupOrder_150 : decode cX10_innerGroupOrder 150 = .ok (.iconst 1, 1) := by decide +kernel
theorem dX10_innerGroupOrder_151 : decode cX10_innerGroupOrder 151 = .ok (.iastore, 1) := by decide +kernel
theorem dX10_innerGroupOrder_152 : decode cX10_innerGroupOrder 152 = .ok (.iconst 0, 1) := by decide +kernel
theorem dX10_innerGroupOrder_153 : decode cX10_innerGroupOrder 153 = .ok (.istore 6, 2) := by decide +kernel
theorem dX10_innerGroupOrder_155 : decode cX10_innerGroupOrder 155 = .ok (.iload 6, 2) := by decide +kernel
theorem dX10_innerGroupOrder_157 : decode cX10_innerGroupOrder 157 = .ok (.iload_n 1, 1) := by decide +kernel
theorem dX10_innerGroupOrder_158 : decode cX10_innerGroupOrder 158 = .ok (.if_icmp .ge 28, 3) := by decide +kernel
theorem dX10_innerGroupOrder_161 : decode cX10_innerGroupOrder 161 = .ok (.aload_n 0, 1) := by decide +kernel
theorem dX10_innerGroupOrder_162 : decode cX10_innerGroupOrder 162 = .ok (.getfield 34, 3) := by decide +kernel
theorem dX10_innerGroupOrder_165 : decode cX10_innerGroupOrder 165 = .ok (.bipush 6, 2) := by decide +kernel
theorem dX10_innerGroupOrder_167 : decode cX10_innerGroupOrder 167 = .ok (.iload_n 2, 1) := by decide +kernel
theorem dX10_innerGroupOrder_168 : decode cX10_innerGroupOrder 168 = .ok (.imul, 1) := by decide +kernel
theorem dX10_innerGroupOrder_169 : decode cX10_innerGroupOrder 169 = .ok (.iload 6, 2) := by decide +kernel
theorem dX10_innerGroupOrder_171 : decode cX10_innerGroupOrder 171 = .ok (.iadd, 1) := by decide +kernel
theorem dX10_innerGroupOrder_172 : decode cX10_innerGroupOrder 172 = .ok (.aload_n 0, 1) := by decide +kernel
theorem dX10_innerGroupOrder_173 : decode cX10_innerGroupOrder 173 = .ok (.getfield 25, 3) := by decide +kernel
theorem dX10_innerGroupOrder_176 : decode cX10_innerGroupOrder 176 = .ok (.iload 6, 2) := by decide +kernel
theorem dX10_innerGroupOrder_178 : decode cX10_innerGroupOrder 178 = .ok (.iaload, 1) := by decide +kernel
theorem dX10_innerGroupOrder_179 : decode cX10_innerGroupOrder 179 = .ok (.iastore, 1) := by decide +kernel
theorem dX10_innerGroupOrder_180 : decode cX10_innerGroupOrder 180 = .ok (.iinc 6 1, 3) := by decide +kernel
theorem dX10_innerGroupOrder_183 : decode cX10_innerGroupOrder 183 = .ok (.goto (-28), 3) := by decide +kernel
theorem dX10_innerGroupOrder_186 : decode cX10_innerGroupOrder 186 = .ok (.iinc 2 1, 3) := by decide +kernel
theorem dX10_innerGroupOrder_189 : decode cX10_innerGroupOrder 189 = .ok (.iinc 4 1, 3) := by decide +kernel
theorem dX10_innerGroupOrder_192 : decode cX10_innerGroupOrder 192 = .ok (.goto (-111), 3) := by decide +kernel
theorem dX10_innerGroupOrder_195 : decode cX10_innerGroupOrder 195 = .ok (.iinc 3 1, 3) := by decide +kernel
theorem dX10_innerGroupOrder_198 : decode cX10_innerGroupOrder 198 = .ok (.goto (-125), 3) := by decide +kernel
theorem dX10_innerGroupOrder_201 : decode cX10_innerGroupOrder 201 = .ok (.iload_n 2, 1) := by decide +kernel
theorem dX10_innerGroupOrder_202 : decode cX10_innerGroupOrder 202 = .ok (.ireturn, 1) := by decide +kernel
theorem dX10_isAutomorphism_0 : decode cX10_isAutomorphism 0 = .ok (.iconst 1, 1) := by decide +kernel
theorem dX10_isAutomorphism_1 : decode cX10_isAutomorphism 1 = .ok (.istore_n 1, 1) := by decide +kernel
theorem dX10_isAutomorphism_2 : decode cX10_isAutomorphism 2 = .ok (.iconst 0, 1) := by decide +kernel
theorem dX10_isAutomorphism_3 : decode cX10_isAutomorphism 3 = .ok (.istore_n 2, 1) := by decide +kernel
theorem dX10_isAutomorphism_4 : decode cX10_isAutomorphism 4 = .ok (.iload_n 2, 1) := by decide +kernel
theorem dX10_isAutomorphism_5 : decode cX10_isAutomorphism 5 = .ok (.aload_n 0, 1) := by decide +kernel
theorem dX10_isAutomorphism_6 : decode cX10_isAutomorphism 6 = .ok (.getfield 7, 3) := by decide +kernel
theorem dX10_isAutomorphism_9 : decode cX10_isAutomorphism 9 = .ok (.bipush 84, 2) := by decide +kernel
theorem dX10_isAutomorphism_11 : decode cX10_isAutomorphism 11 = .ok (.iaload, 1) := by decide +kernel
theorem dX10_isAutomorphism_12 : decode cX10_isAutomorphism 12 = .ok (.if_icmp .ge 68, 3) := by decide +kernel
theorem dX10_isAutomorphism_15 : decode cX10_isAutomorphism 15 = .ok (.iconst 0, 1) := by decide +kernel
theorem dX10_isAutomorphism_16 : decode cX10_isAutomorphism 16 = .ok (.istore_n 3, 1) := by decide +kernel
theorem dX10_isAutomorphism_17 : decode cX10_isAutomorphism 17 = .ok (.iload_n 3, 1) := by decide +kernel
theorem dX10_isAutomorphism_18 : decode cX10_isAutomorphism 18 = .ok (.aload_n 0, 1) := by decide +kernel
theorem dX10_isAutomorphism_19 : decode cX10_isAutomorphism 19 = .ok (.getfield 7, 3) := by decide +kernel
theorem dX10_isAutomorphism_22 : decode cX10_isAutomorphism 22 = .ok (.bipush 84, 2) := by decide +kernel
theorem dX10_isAutomorphism_24 : decode cX10_isAutomorphism 24 = .ok (.iaload, 1) := by decide +kernel
theorem dX10_isAutomorphism_25 : decode cX10_isAutomorphism 25 = .ok (.if_icmp .ge 49, 3) := by decide +kernel
theorem dX10_isAutomorphism_28 : decode cX10_isAutomorphism 28 = .ok (.iload_n 1, 1) := by decide +kernel
theorem dX10_isAutomorphism_29 : decode cX10_isAutomorphism 29 = .ok (.ifCond .eq 45, 3) := by decide +kernel
theorem dX10_isAutomorphism_32 : decode cX10_isAutomorphism 32 = .ok (.aload_n 0, 1) := by decide +kernel
theorem dX10_isAutomorphism_33 : decode cX10_isAutomorphism 33 = .ok (.getfield 19, 3) := by decide +kernel
theorem dX10_isAutomorphism_36 : decode cX10_isAutomorphism 36 = .ok (.aload_n 0, 1) := by decide +kernel
theorem dX10_isAutomorphism_37 : decode cX10_isAutomorphism 37 = .ok (.iload_n 2, 1) := by decide +kernel
theorem dX10_isAutomorphism_38 : decode cX10_isAutomorphism 38 = .ok (.iload_n 3, 1) := by decide +kernel
theorem dX10_isAutomorphism_39 : decode cX10_isAutomorphism 39 = .ok (.invokevirtual 78, 3) := by decide +kernel
theorem dX10_isAutomorphism_42 : decode cX10_isAutomorphism 42 = .ok (.iaload, 1) := by decide +kernel
theorem dX10_isAutomorphism_43 : decode cX10_isAutomorphism 43 = .ok (.aload_n 0, 1) := by decide +kernel
theorem dX10_isAutomorphism_44 : decode cX10_isAutomorphism 44 = .ok (.aload_n 0, 1) := by decide +kernel
theorem dX10_isAutomorphism_45 : decode cX10_isAutomorphism 45 = .ok (.getfield 19, 3) := by decide +kernel
theorem dX10_isAutomorphism_48 : decode cX10_isAutomorphism 48 = .ok (.iload_n 2, 1) := by decide +kernel
theorem dX10_isAutomorphism_49 : decode cX10_isAutomorphism 49 = .ok (.iaload, 1) := by decide +kernel
theorem dX10_isAutomorphism_50 : decode cX10_isAutomorphism 50 = .ok (.aload_n 0, 1) := by decide +kernel
theorem dX10_isAutomorphism_51 : decode cX10_isAutomorphism 51 = .ok (.getfield 19, 3) := by decide +kernel
theorem dX10_isAutomorphism_54 : decode cX10_isAutomorphism 54 = .ok (.iload_n 3, 1) := by decide +kernel
theorem dX10_isAutomorphism_55 : decode cX10_isAutomorphism 55 = .ok (.iaload, 1) := by decide +kernel
theorem dX10_isAutomorphism_56 : decode cX10_isAutomorphism 56 = .ok (.invokevirtual 78, 3) := by decide +kernel
theorem dX10_isAutomorphism_59 : decode cX10_isAutomorphism 59 = .ok (.if_icmp .ne 7, 3) := by decide +kernel
theorem dX10_isAutomorphism_62 : decode cX10_isAutomorphism 62 = .ok (.iconst 1, 1) := by decide +kernel
theorem dX10_isAutomorphism_63 : decode cX10_isAutomorphism 63 = .ok (.goto 4, 3) := by decide +kernel
theorem dX10_isAutomorphism_66 : decode cX10_isAutomorphism 66 = .ok (.iconst 0, 1) := by decide +kernel
theorem dX10_isAutomorphism_67 : decode cX10_isAutomorphism 67 = .ok (.istore_n 1, 1) := by decide +kernel
theorem dX10_isAutomorphism_68 : decode cX10_isAutomorphism 68 = .ok (.iinc 3 1, 3) := by decide +kernel
theorem dX10_isAutomorphism_71 : decode cX10_isAutomorphism 71 = .ok (.goto (-54), 3) := by decide +kernel
theorem dX10_isAutomorphism_74 : decode cX10_isAutomorphism 74 = .ok (.iinc 2 1, 3) := by decide +kernel
theorem dX10_isAutomorphism_77 : decode cX10_isAutomorphism 77 = .ok (.goto (-73), 3) := by decide +kernel
theorem dX10_isAutomorphism_80 : decode cX10_isAutomorphism 80 = .ok (.iload_n 1, 1) := by decide +kernel
theorem dX10_isAutomorphism_81 : decode cX10_isAutomorphism 81 = .ok (.ireturn, 1) := by decide +kernel
theorem dX10_automorphismCount_0 : decode cX10_automorphismCount 0 = .ok (.iconst 0, 1) := by decide +kernel
theorem dX10_automorphismCount_1 : decode cX10_automorphismCount 1 = .ok (.istore_n 1, 1) := by decide +kernel
theorem dX10_automorphismCount_2 : decode cX10_automorphismCount 2 = .ok (.aload_n 0, 1) := by decide +kernel
theorem dX10_automorphismCount_3 : decode cX10_automorphismCount 3 = .ok (.getfield 7, 3) := by decide +kernel
theorem dX10_automorphismCount_6 : decode cX10_automorphismCount 6 = .ok (.bipush 84, 2) := by decide +kernel
theorem dX10_automorphismCount_8 : decode cX10_automorphismCount 8 = .ok (.iaload, 1) := by decide +kernel
theorem dX10_automorphismCount_9 : decode cX10_automorphismCount 9 = .ok (.invokestatic 88, 3) := by decide +kernel
theorem dX10_automorphismCount_12 : decode cX10_automorphismCount 12 = .ok (.istore_n 2, 1) := by decide +kernel
theorem dX10_automorphismCount_13 : decode cX10_automorphismCount 13 = .ok (.iconst 0, 1) := by decide +kernel
theorem dX10_automorphismCount_14 : decode cX10_automorphismCount 14 = .ok (.istore_n 3, 1) := by decide +kernel
theorem dX10_automorphismCount_15 : decode cX10_automorphismCount 15 = .ok (.iload_n 3, 1) := by decide +kernel
theorem dX10_automorphismCount_16 : decode cX10_automorphismCount 16 = .ok (.iload_n 2, 1) := by decide +kernel
theorem dX10_automorphismCount_17 : decode cX10_automorphismCount 17 = .ok (.if_icmp .ge 36, 3) := by decide +kernel
theorem dX10_automorphismCount_20 : decode cX10_automorphismCount 20 = .ok (.aload_n 0, 1) := by decide +kernel
theorem dX10_automorphismCount_21 : decode cX10_automorphismCount 21 = .ok (.aload_n 0, 1) := by decide +kernel
theorem dX10_automorphismCount_22 : decode cX10_automorphismCount 22 = .ok (.getfield 7, 3) := by decide +kernel
theorem dX10_automorphismCount_25 : decode cX10_automorphismCount 25 = .ok (.bipush 84, 2) := by decide +kernel
theorem dX10_automorphismCount_27 : decode cX10_automorphismCount 27 = .ok (.iaload, 1) := by decide +kernel
theorem dX10_automorphismCount_28 : decode cX10_automorphismCount 28 = .ok (.iload_n 3, 1) := by decide +kernel
theorem dX10_automorphismCount_29 : decode cX10_automorphismCount 29 = .ok (.invokevirtual 60, 3) := by decide +kernel
theorem dX10_automorphismCount_32 : decode cX10_automorphismCount 32 = .ok (.iload_n 1, 1) := by decide +kernel
theorem dX10_automorphismCount_33 : decode cX10_automorphismCount 33 = .ok (.aload_n 0, 1) := by decide +kernel
theorem dX10_automorphismCount_34 : decode cX10_automorphismCount 34 = .ok (.invokevirtual 91, 3) := by decide +kernel
theorem dX10_automorphismCount_37 : decode cX10_automorphismCount 37 = .ok (.ifCond .eq 7, 3) := by decide +kernel
theorem dX10_automorphismCount_40 : decode cX10_automorphismCount 40 = .ok (.iconst 1, 1) := by decide +kernel
theorem dX10_automorphismCount_41 : decode cX10_automorphismCount 41 = .ok (.goto 4, 3) := by decide +kernel
theorem dX10_automorphismCount_44 : decode cX10_automorphismCount 44 = .ok (.iconst 0, 1) := by decide +kernel
theorem dX10_automorphismCount_45 : decode cX10_automorphismCount 45 = .ok (.iadd, 1) := by decide +kernel
theorem dX10_automorphismCount_46 : decode cX10_automorphismCount 46 = .ok (.istore_n 1, 1) := by decide +kernel
theorem dX10_automorphismCount_47 : decode cX10_automorphismCount 47 = .ok (.iinc 3 1, 3) := by decide +kernel
theorem dX10_automorphismCount_50 : decode cX10_automorphismCount 50 = .ok (.goto (-35), 3) := by decide +kernel
theorem dX10_automorphismCount_53 : decode cX10_automorphismCount 53 = .ok (.iload_n 1, 1) := by decide +kernel
theorem dX10_automorphismCount_54 : decode cX10_automorphismCount 54 = .ok (.ireturn, 1) := by decide +kernel
theorem dX10_setStrands_0 : decode cX10_setStrands 0 = .ok (.iload_n 1, 1) := by decide +kernel
theorem dX10_setStrands_1 : decode cX10_setStrands 1 = .ok (.iconst 2, 1) := by decide +kernel
theorem dX10_setStrands_2 : decode cX10_setStrands 2 = .ok (.iconst 4, 1) := by decide +kernel
theorem dX10_setStrands_3 : decode cX10_setStrands 3 = .ok (.invokestatic 37, 3) := by decide +kernel
theorem dX10_setStrands_6 : decode cX10_setStrands 6 = .ok (.ifCond .ne 5, 3) := by decide +kernel
theorem dX10_setStrands_9 : decode cX10_setStrands 9 = .ok (.iconst (-1), 1) := by decide +kernel
theorem dX10_setStrands_10 : decode cX10_setStrands 10 = .ok (.ireturn, 1) := by decide +kernel
theorem dX10_setStrands_11 : decode cX10_setStrands 11 = .ok (.aload_n 0, 1) := by decide +kernel
theorem dX10_setStrands_12 : decode cX10_setStrands 12 = .ok (.invokevirtual 45, 3) := by decide +kernel
theorem dX10_setStrands_15 : decode cX10_setStrands 15 = .ok (.aload_n 0, 1) := by decide +kernel
theorem dX10_setStrands_16 : decode cX10_setStrands 16 = .ok (.getfield 7, 3) := by decide +kernel
theorem dX10_setStrands_19 : decode cX10_setStrands 19 = .ok (.bipush 85, 2) := by decide +kernel
theorem dX10_setStrands_21 : decode cX10_setStrands 21 = .ok (.iaload, 1) := by decide +kernel
theorem dX10_setStrands_22 : decode cX10_setStrands 22 = .ok (.istore_n 2, 1) := by decide +kernel
theorem dX10_setStrands_23 : decode cX10_setStrands 23 = .ok (.aload_n 0, 1) := by decide +kernel
theorem dX10_setStrands_24 : decode cX10_setStrands 24 = .ok (.getfield 7, 3) := by decide +kernel
theorem dX10_setStrands_27 : decode cX10_setStrands 27 = .ok (.bipush 85, 2) := by decide +kernel
theorem dX10_setStrands_29 : decode cX10_setStrands 29 = .ok (.iload_n 1, 1) := by decide +kernel
theorem dX10_setStrands_30 : decode cX10_setStrands 30 = .ok (.iastore, 1) := by decide +kernel
theorem dX10_setStrands_31 : decode cX10_setStrands 31 = .ok (.aload_n 0, 1) := by decide +kernel
theorem dX10_setStrands_32 : decode cX10_setStrands 32 = .ok (.getfield 7, 3) := by decide +kernel
theorem dX10_setStrands_35 : decode cX10_setStrands 35 = .ok (.bipush 86, 2) := by decide +kernel
theorem dX10_setStrands_37 : decode cX10_setStrands 37 = .ok (.iconst 0, 1) := by decide +kernel
theorem dX10_setStrands_38 : decode cX10_setStrands 38 = .ok (.iastore, 1) := by decide +kernel
theorem dX10_setStrands_39 : decode cX10_setStrands 39 = .ok (.iload_n 2, 1) := by decide +kernel
theorem dX10_setStrands_40 : decode cX10_setStrands 40 = .ok (.ireturn, 1) := by decide +kernel
theorem dX10_appendCrossing_0 : decode cX10_appendCrossing 0 = .ok (.aload_n 0, 1) := by decide +kernel
theorem dX10_appendCrossing_1 : decode cX10_appendCrossing 1 = .ok (.getfield 7, 3) := by decide +kernel
theorem dX10_appendCrossing_4 : decode cX10_appendCrossing 4 = .ok (.bipush 85, 2) := by decide +kernel
theorem dX10_appendCrossing_6 : decode cX10_appendCrossing 6 = .ok (.iaload, 1) := by decide +kernel
theorem dX10_appendCrossing_7 : decode cX10_appendCrossing 7 = .ok (.iconst 1, 1) := by decide +kernel
theorem dX10_appendCrossing_8 : decode cX10_appendCrossing 8 = .ok (.isub, 1) := by decide +kernel
theorem dX10_appendCrossing_9 : decode cX10_appendCrossing 9 = .ok (.istore_n 2, 1) := by decide +kernel
theorem dX10_appendCrossing_10 : decode cX10_appendCrossing 10 = .ok (.iload_n 1, 1) := by decide +kernel
theorem dX10_appendCrossing_11 : decode cX10_appendCrossing 11 = .ok (.iload_n 2, 1) := by decide +kernel
theorem dX10_appendCrossing_12 : decode cX10_appendCrossing 12 = .ok (.ineg, 1) := by decide +kernel
theorem dX10_appendCrossing_13 : decode cX10_appendCrossing 13 = .ok (.iload_n 2, 1) := by decide +kernel
theorem dX10_appendCrossing_14 : decode cX10_appendCrossing 14 = .ok (.invokestatic 37, 3) := by decide +kernel
theorem dX10_appendCrossing_17 : decode cX10_appendCrossing 17 = .ok (.ifCond .eq 7, 3) := by decide +kernel
theorem dX10_appendCrossing_20 : decode cX10_appendCrossing 20 = .ok (.iload_n 1, 1) := by decide +kernel
theorem dX10_appendCrossing_21 : decode cX10_appendCrossing 21 = .ok (.ifCond .ne 5, 3) := by decide +kernel
theorem dX10_appendCrossing_24 : decode cX10_appendCrossing 24 = .ok (.iconst (-1), 1) := by decide +kernel
theorem dX10_appendCrossing_25 : decode cX10_appendCrossing 25 = .ok (.ireturn, 1) := by decide +kernel
theorem dX10_appendCrossing_26 : decode cX10_appendCrossing 26 = .ok (.aload_n 0, 1) := by decide +kernel
theorem dX10_appendCrossing_27 : decode cX10_appendCrossing 27 = .ok (.getfield 7, 3) := by decide +kernel
theorem dX10_appendCrossing_30 : decode cX10_appendCrossing 30 = .ok (.bipush 86, 2) := by decide +kernel
theorem dX10_appendCrossing_32 : decode cX10_appendCrossing 32 = .ok (.iaload, 1) := by decide +kernel
theorem dX10_appendCrossing_33 : decode cX10_appendCrossing 33 = .ok (.bipush 12, 2) := by decide +kernel
theorem dX10_appendCrossing_35 : decode cX10_appendCrossing 35 = .ok (.if_icmp .ne 6, 3) := by decide +kernel
theorem dX10_appendCrossing_38 : decode cX10_appendCrossing 38 = .ok (.bipush (-3), 2) := by decide +kernel
theorem dX10_appendCrossing_40 : decode cX10_appendCrossing 40 = .ok (.ireturn, 1) := by decide +kernel
theorem dX10_appendCrossing_41 : decode cX10_appendCrossing 41 = .ok (.aload_n 0, 1) := by decide +kernel
theorem dX10_appendCrossing_42 : decode cX10_appendCrossing 42 = .ok (.invokevirtual 45, 3) := by decide +kernel
theorem dX10_appendCrossing_45 : decode cX10_appendCrossing 45 = .ok (.aload_n 0, 1) := by decide +kernel
theorem dX10_appendCrossing_46 : decode cX10_appendCrossing 46 = .ok (.getfield 7, 3) := by decide +kernel
theorem dX10_appendCrossing_49 : decode cX10_appendCrossing 49 = .ok (.bipush 72, 2) := by decide +kernel
theorem dX10_appendCrossing_51 : decode cX10_appendCrossing 51 = .ok (.aload_n 0, 1) := by decide +kernel
theorem dX10_appendCrossing_52 : decode cX10_appendCrossing 52 = .ok (.getfield 7, 3) := by decide +kernel
theorem dX10_appendCrossing_55 : decode cX10_appendCrossing 55 = .ok (.bipush 86, 2) := by decide +kernel
theorem dX10_appendCrossing_57 : decode cX10_appendCrossing 57 = .ok (.iaload, 1) := by decide +kernel
theorem dX10_appendCrossing_58 : decode cX10_appendCrossing 58 = .ok (.iadd, 1) := by decide +kernel
theorem dX10_appendCrossing_59 : decode cX10_appendCrossing 59 = .ok (.iload_n 1, 1) := by decide +kernel
theorem dX10_appendCrossing_60 : decode cX10_appendCrossing 60 = .ok (.iastore, 1) := by decide +kernel
theorem dX10_appendCrossing_61 : decode cX10_appendCrossing 61 = .ok (.aload_n 0, 1) := by decide +kernel
theorem dX10_appendCrossing_62 : decode cX10_appendCrossing 62 = .ok (.getfield 7, 3) := by decide +kernel
theorem dX10_appendCrossing_65 : decode cX10_appendCrossing 65 = .ok (.bipush 86, 2) := by decide +kernel
theorem dX10_appendCrossing_67 : decode cX10_appendCrossing 67 = .ok (.dup2, 1) := by decide +kernel
theorem dX10_appendCrossing_68 : decode cX10_appendCrossing 68 = .ok (.iaload, 1) := by decide +kernel
theorem dX10_appendCrossing_69 : decode cX10_appendCrossing 69 = .ok (.iconst 1, 1) := by decide +kernel
theorem dX10_appendCrossing_70 : decode cX10_appendCrossing 70 = .ok (.iadd, 1) := by decide +kernel
theorem dX10_appendCrossing_71 : decode cX10_appendCrossing 71 = .ok (.iastore, 1) := by decide +kernel
theorem dX10_appendCrossing_72 : decode cX10_appendCrossing 72 = .ok (.aload_n 0, 1) := by decide +kernel
theorem dX10_appendCrossing_73 : decode cX10_appendCrossing 73 = .ok (.getfield 7, 3) := by decide +kernel
theorem dX10_appendCrossing_76 : decode cX10_appendCrossing 76 = .ok (.bipush 86, 2) := by decide +kernel
theorem dX10_appendCrossing_78 : decode cX10_appendCrossing 78 = .ok (.iaload, 1) := by decide +kernel
theorem dX10_appendCrossing_79 : decode cX10_appendCrossing 79 = .ok (.ireturn, 1) := by decide +kernel
theorem dX10_removeCrossing_0 : decode cX10_removeCrossing 0 = .ok (.aload_n 0, 1) := by decide +kernel
theorem dX10_removeCrossing_1 : decode cX10_removeCrossing 1 = .ok (.getfield 7, 3) := by decide +kernel
theorem dX10_removeCrossing_4 : decode cX10_removeCrossing 4 = .ok (.bipush 86, 2) := by decide +kernel
theorem dX10_removeCrossing_6 : decode cX10_removeCrossing 6 = .ok (.iaload, 1) := by decide +kernel
theorem dX10_removeCrossing_7 : decode cX10_removeCrossing 7 = .ok (.ifCond .ne 6, 3) := by decide +kernel
theorem dX10_removeCrossing_10 : decode cX10_removeCrossing 10 = .ok (.bipush (-4), 2) := by decide +kernel
theorem dX10_removeCrossing_12 : decode cX10_removeCrossing 12 = .ok (.ireturn, 1) := by decide +kernel
theorem dX10_removeCrossing_13 : decode cX10_removeCrossing 13 = .ok (.aload_n 0, 1) := by decide +kernel
theorem dX10_removeCrossing_14 : decode cX10_removeCrossing 14 = .ok (.invokevirtual 45, 3) := by decide +kernel
theorem dX10_removeCrossing_17 : decode cX10_removeCrossing 17 = .ok (.aload_n 0, 1) := by decide +kernel
theorem dX10_removeCrossing_18 : decode cX10_removeCrossing 18 = .ok (.getfield 7, 3) := by decide +kernel
theorem dX10_removeCrossing_21 : decode cX10_removeCrossing 21 = .ok (.bipush 86, 2) := by decide +kernel
theorem dX10_removeCrossing_23 : decode cX10_removeCrossing 23 = .ok (.dup2, 1) := by decide +kernel
theorem dX10_removeCrossing_24 : decode cX10_removeCrossing 24 = .ok (.iaload, 1) := by decide +kernel
theorem dX10_removeCrossing_25 : decode cX10_removeCrossing 25 = .ok (.iconst 1, 1) := by decide +kernel
theorem dX10_removeCrossing_26 : decode cX10_removeCrossing 26 = .ok (.isub, 1) := by decide +kernel
theorem dX10_removeCrossing_27 : decode cX10_removeCrossing 27 = .ok (.iastore, 1) := by decide +kernel
theorem dX10_removeCrossing_28 : decode cX10_removeCrossing 28 = .ok (.aload_n 0, 1) := by decide +kernel
theorem dX10_removeCrossing_29 : decode cX10_removeCrossing 29 = .ok (.getfield 7, 3) := by decide +kernel
theorem dX10_removeCrossing_32 : decode cX10_removeCrossing 32 = .ok (.bipush 72, 2) := by decide +kernel
theorem dX10_removeCrossing_34 : decode cX10_removeCrossing 34 = .ok (.aload_n 0, 1) := by decide +kernel
theorem dX10_removeCrossing_35 : decode cX10_removeCrossing 35 = .ok (.getfield 7, 3) := by decide +kernel
theorem dX10_removeCrossing_38 : decode cX10_removeCrossing 38 = .ok (.bipush 86, 2) := by decide +kernel
theorem dX10_removeCrossing_40 : decode cX10_removeCrossing 40 = .ok (.iaload, 1) := by decide +kernel
theorem dX10_removeCrossing_41 : decode cX10_removeCrossing 41 = .ok (.iadd, 1) := by decide +kernel
theorem dX10_removeCrossing_42 : decode cX10_removeCrossing 42 = .ok (.iaload, 1) := by decide +kernel
theorem dX10_removeCrossing_43 : decode cX10_removeCrossing 43 = .ok (.istore_n 1, 1) := by decide +kernel
theorem dX10_removeCrossing_44 : decode cX10_removeCrossing 44 = .ok (.iload_n 1, 1) := by decide +kernel
theorem dX10_removeCrossing_45 : decode cX10_removeCrossing 45 = .ok (.ifCond .ge 8, 3) := by decide +kernel
theorem dX10_removeCrossing_48 : decode cX10_removeCrossing 48 = .ok (.iload_n 1, 1) := by decide +kernel
theorem dX10_removeCrossing_49 : decode cX10_removeCrossing 49 = .ok (.ineg, 1) := by decide +kernel
theorem dX10_removeCrossing_50 : decode cX10_removeCrossing 50 = .ok (.goto 4, 3) := by decide +kernel
theorem dX10_removeCrossing_53 : decode cX10_removeCrossing 53 = .ok (.iload_n 1, 1) := by decide +kernel
theorem dX10_removeCrossing_54 : decode cX10_removeCrossing 54 = .ok (.ireturn, 1) := by decide +kernel
theorem dX10_crossingCount_0 : decode cX10_crossingCount 0 = .ok (.aload_n 0, 1) := by decide +kernel
theorem dX10_crossingCount_1 : decode cX10_crossingCount 1 = .ok (.getfield 7, 3) := by decide +kernel
theorem dX10_crossingCount_4 : decode cX10_crossingCount 4 = .ok (.bipush 86, 2) := by decide +kernel
theorem dX10_crossingCount_6 : decode cX10_crossingCount 6 = .ok (.iaload, 1) := by decide +kernel
theorem dX10_crossingCount_7 : decode cX10_crossingCount 7 = .ok (.ireturn, 1) := by decide +kernel
theorem dX10_codes_0 : decode cX10_codes 0 = .ok (.iconst 1, 1) := by decide +kernel
theorem dX10_codes_1 : decode cX10_codes 1 = .ok (.istore_n 1, 1) := by decide +kernel
theorem dX10_codes_2 : decode cX10_codes 2 = .ok (.iconst 0, 1) := by decide +kernel
theorem dX10_codes_3 : decode cX10_codes 3 = .ok (.istore_n 2, 1) := by decide +kernel
theorem dX10_codes_4 : decode cX10_codes 4 = .ok (.iload_n 2, 1) := by decide +kernel
theorem dX10_codes_5 : decode cX10_codes 5 = .ok (.aload_n 0, 1) := by decide +kernel
theorem dX10_codes_6 : decode cX10_codes 6 = .ok (.getfield 7, 3) := by decide +kernel
theorem dX10_codes_9 : decode cX10_codes 9 = .ok (.bipush 85, 2) := by decide +kernel
theorem dX10_codes_11 : decode cX10_codes 11 = .ok (.iaload, 1) := by decide +kernel
theorem dX10_codes_12 : decode cX10_codes 12 = .ok (.if_icmp .ge 19, 3) := by decide +kernel
theorem dX10_codes_15 : decode cX10_codes 15 = .ok (.iload_n 1, 1) := by decide +kernel
theorem dX10_codes_16 : decode cX10_codes 16 = .ok (.aload_n 0, 1) := by decide +kernel
theorem dX10_codes_17 : decode cX10_codes 17 = .ok (.getfield 7, 3) := by decide +kernel
theorem dX10_codes_20 : decode cX10_codes 20 = .ok (.bipush 84, 2) := by decide +kernel
theorem dX10_codes_22 : decode cX10_codes 22 = .ok (.iaload, 1) := by decide +kernel
theorem dX10_codes_23 : decode cX10_codes 23 = .ok (.imul, 1) := by decide +kernel
theorem dX10_codes_24 : decode cX10_codes 24 = .ok (.istore_n 1, 1) := by decide +kernel
theorem dX10_codes_25 : decode cX10_codes 25 = .ok (.iinc 2 1, 3) := by decide +kernel
theorem dX10_codes_28 : decode cX10_codes 28 = .ok (.goto (-24), 3) := by decide +kernel
theorem dX10_codes_31 : decode cX10_codes 31 = .ok (.iload_n 1, 1) := by decide +kernel
theorem dX10_codes_32 : decode cX10_codes 32 = .ok (.ireturn, 1) := by decide +kernel
theorem dX10_isColoring_0 : decode cX10_isColoring 0 = .ok (.iload_n 1, 1) := by decide +kernel
theorem dX10_isColoring_1 : decode cX10_isColoring 1 = .ok (.istore_n 2, 1) := by decide +kernel
theorem dX10_isColoring_2 : decode cX10_isColoring 2 = .ok (.aload_n 0, 1) := by decide +kernel
theorem dX10_isColoring_3 : decode cX10_isColoring 3 = .ok (.getfield 7, 3) := by decide +kernel
theorem dX10_isColoring_6 : decode cX10_isColoring 6 = .ok (.bipush 85, 2) := by decide +kernel
theorem dX10_isColoring_8 : decode cX10_isColoring 8 = .ok (.iaload, 1) := by decide +kernel
theorem dX10_isColoring_9 : decode cX10_isColoring 9 = .ok (.iconst 1, 1) := by decide +kernel
theorem dX10_isColoring_10 : decode cX10_isColoring 10 = .ok (.isub, 1) := by decide +kernel
theorem dX10_isColoring_11 : decode cX10_isColoring 11 = .ok (.istore_n 3, 1) := by decide +kernel
theorem dX10_isColoring_12 : decode cX10_isColoring 12 = .ok (.iload_n 3, 1) := by decide +kernel
theorem dX10_isColoring_13 : decode cX10_isColoring 13 = .ok (.ifCond .lt 34, 3) := by decide +kernel
theorem dX10_isColoring_16 : decode cX10_isColoring 16 = .ok (.aload_n 0, 1) := by decide +kernel
theorem dX10_isColoring_17 : decode cX10_isColoring 17 = .ok (.getfield 22, 3) := by decide +kernel
theorem dX10_isColoring_20 : decode cX10_isColoring 20 = .ok (.iload_n 3, 1) := by decide +kernel
theorem dX10_isColoring_21 : decode cX10_isColoring 21 = .ok (.iload_n 2, 1) := by decide +kernel
theorem dX10_isColoring_22 : decode cX10_isColoring 22 = .ok (.aload_n 0, 1) := by decide +kernel
theorem dX10_isColoring_23 : decode cX10_isColoring 23 = .ok (.getfield 7, 3) := by decide +kernel
theorem dX10_isColoring_26 : decode cX10_isColoring 26 = .ok (.bipush 84, 2) := by decide +kernel
theorem dX10_isColoring_28 : decode cX10_isColoring 28 = .ok (.iaload, 1) := by decide +kernel
theorem dX10_isColoring_29 : decode cX10_isColoring 29 = .ok (.irem, 1) := by decide +kernel
theorem dX10_isColoring_30 : decode cX10_isColoring 30 = .ok (.iastore, 1) := by decide +kernel
theorem dX10_isColoring_31 : decode cX10_isColoring 31 = .ok (.iload_n 2, 1) := by decide +kernel
theorem dX10_isColoring_32 : decode cX10_isColoring 32 = .ok (.aload_n 0, 1) := by decide +kernel
theorem dX10_isColoring_33 : decode cX10_isColoring 33 = .ok (.getfield 7, 3) := by decide +kernel
theorem dX10_isColoring_36 : decode cX10_isColoring 36 = .ok (.bipush 84, 2) := by decide +kernel
theorem dX10_isColoring_38 : decode cX10_isColoring 38 = .ok (.iaload, 1) := by decide +kernel
theorem dX10_isColoring_39 : decode cX10_isColoring 39 = .ok (.idiv, 1) := by decide +kernel
theorem dX10_isColoring_40 : decode cX10_isColoring 40 = .ok (.istore_n 2, 1) := by decide +kernel
theorem dX10_isColoring_41 : decode cX10_isColoring 41 = .ok (.iinc 3 (-1), 3) := by decide +kernel
theorem dX10_isColoring_44 : decode cX10_isColoring 44 = .ok (.goto (-32), 3) := by decide +kernel
theorem dX10_isColoring_47 : decode cX10_isColoring 47 = .ok (.aload_n 0, 1) := by decide +kernel
theorem dX10_isColoring_48 : decode cX10_isColoring 48 = .ok (.iconst 0, 1) := by decide +kernel
theorem dX10_isColoring_49 : decode cX10_isColoring 49 = .ok (.putfield 95, 3) := by decide +kernel
theorem dX10_isColoring_52 : decode cX10_isColoring 52 = .ok (.iconst 0, 1) := by decide +kernel
theorem dX10_isColoring_53 : decode cX10_isColoring 53 = .ok (.istore_n 3, 1) := by decide +kernel
theorem dX10_isColoring_54 : decode cX10_isColoring 54 = .ok (.iload_n 3, 1) := by decide +kernel
theorem dX10_isColoring_55 : decode cX10_isColoring 55 = .ok (.aload_n 0, 1) := by decide +kernel
theorem dX10_isColoring_56 : decode cX10_isColoring 56 = .ok (.getfield 7, 3) := by decide +kernel
theorem dX10_isColoring_59 : decode cX10_isColoring 59 = .ok (.bipush 86, 2) := by decide +kernel
theorem dX10_isColoring_61 : decode cX10_isColoring 61 = .ok (.iaload, 1) := by decide +kernel
theorem dX10_isColoring_62 : decode cX10_isColoring 62 = .ok (.if_icmp .ge 166, 3) := by decide +kernel
theorem dX10_isColoring_65 : decode cX10_isColoring 65 = .ok (.aload_n 0, 1) := by decide +kernel
theorem dX10_isColoring_66 : decode cX10_isColoring 66 = .ok (.getfield 7, 3) := by decide +kernel
theorem dX10_isColoring_69 : decode cX10_isColoring 69 = .ok (.bipush 72, 2) := by decide +kernel
theorem dX10_isColoring_71 : decode cX10_isColoring 71 = .ok (.iload_n 3, 1) := by decide +kernel
theorem dX10_isColoring_72 : decode cX10_isColoring 72 = .ok (.iadd, 1) := by decide +kernel
theorem dX10_isColoring_73 : decode cX10_isColoring 73 = .ok (.iaload, 1) := by decide +kernel
theorem dX10_isColoring_74 : decode cX10_isColoring 74 = .ok (.istore 4, 2) := by decide +kernel
theorem dX10_isColoring_76 : decode cX10_isColoring 76 = .ok (.iload 4, 2) := by decide +kernel
theorem dX10_isColoring_78 : decode cX10_isColoring 78 = .ok (.ifCond .ge 9, 3) := by decide +kernel
theorem dX10_isColoring_81 : decode cX10_isColoring 81 = .ok (.iload 4, 2) := by decide +kernel
theorem dX10_isColoring_83 : decode cX10_isColoring 83 = .ok (.ineg, 1) := by decide +kernel
theorem dX10_isColoring_84 : decode cX10_isColoring 84 = .ok (.goto 5, 3) := by decide +kernel
theorem dX10_isColoring_87 : decode cX10_isColoring 87 = .ok (.iload 4, 2) := by decide +kernel
theorem dX10_isColoring_89 : decode cX10_isColoring 89 = .ok (.istore 5, 2) := by decide +kernel
theorem dX10_isColoring_91 : decode cX10_isColoring 91 = .ok (.aload_n 0, 1) := by decide +kernel
theorem dX10_isColoring_92 : decode cX10_isColoring 92 = .ok (.getfield 22, 3) := by decide +kernel
theorem dX10_isColoring_95 : decode cX10_isColoring 95 = .ok (.iload 5, 2) := by decide +kernel
theorem dX10_isColoring_97 : decode cX10_isColoring 97 = .ok (.iconst 1, 1) := by decide +kernel
theorem dX10_isColoring_98 : decode cX10_isColoring 98 = .ok (.isub, 1) := by decide +kernel
theorem dX10_isColoring_99 : decode cX10_isColoring 99 = .ok (.iaload, 1) := by decide +kernel
theorem dX10_isColoring_100 : decode cX10_isColoring 100 = .ok (.istore 6, 2) := by decide +kernel
theorem dX10_isColoring_102 : decode cX10_isColoring 102 = .ok (.aload_n 0, 1) := by decide +kernel
theorem dX10_isColoring_103 : decode cX10_isColoring 103 = .ok (.getfield 22, 3) := by decide +kernel
theorem dX10_isColoring_106 : decode cX10_isColoring 106 = .ok (.iload 5, 2) := by decide +kernel
theorem dX10_isColoring_108 : decode cX10_isColoring 108 = .ok (.iaload, 1) := by decide +kernel
theorem dX10_isColoring_109 : decode cX10_isColoring 109 = .ok (.istore 7, 2) := by decide +kernel
theorem dX10_isColoring_111 : decode cX10_isColoring 111 = .ok (.iload 4, 2) := by decide +kernel
theorem dX10_isColoring_113 : decode cX10_isColoring 113 = .ok (.ifCond .le 49, 3) := by decide +kernel
theorem dX10_isColoring_116 : decode cX10_isColoring 116 = .ok (.aload_n 0, 1) := by decide +kernel
theorem dX10_isColoring_117 : decode cX10_isColoring 117 = .ok (.getfield 22, 3) := by decide +kernel
theorem dX10_isColoring_120 : decode cX10_isColoring 120 = .ok (.iload 5, 2) := by decide +kernel
theorem dX10_isColoring_122 : decode cX10_isColoring 122 = .ok (.iconst 1, 1) := by decide +kernel
theorem dX10_isColoring_123 : decode cX10_isColoring 123 = .ok (.isub, 1) := by decide +kernel
theorem dX10_isColoring_124 : decode cX10_isColoring 124 = .ok (.iload 7, 2) := by decide +kernel
theorem dX10_isColoring_126 : decode cX10_isColoring 126 = .ok (.iastore, 1) := by decide +kernel
theorem dX10_isColoring_127 : decode cX10_isColoring 127 = .ok (.aload_n 0, 1) := by decide +kernel
theorem dX10_isColoring_128 : decode cX10_isColoring 128 = .ok (.getfield 22, 3) := by decide +kernel
theorem dX10_isColoring_131 : decode cX10_isColoring 131 = .ok (.iload 5, 2) := by decide +kernel
theorem dX10_isColoring_133 : decode cX10_isColoring 133 = .ok (.aload_n 0, 1) := by decide +kernel
theorem dX10_isColoring_134 : decode cX10_isColoring 134 = .ok (.iload 6, 2) := by decide +kernel
theorem dX10_isColoring_136 : decode cX10_isColoring 136 = .ok (.iload 7, 2) := by decide +kernel
theorem dX10_isColoring_138 : decode cX10_isColoring 138 = .ok (.invokevirtual 78, 3) := by decide +kernel
theorem dX10_isColoring_141 : decode cX10_isColoring 141 = .ok (.iastore, 1) := by decide +kernel
theorem dX10_isColoring_142 : decode cX10_isColoring 142 = .ok (.aload_n 0, 1) := by decide +kernel
theorem dX10_isColoring_143 : decode cX10_isColoring 143 = .ok (.dup, 1) := by decide +kernel
theorem dX10_isColoring_144 : decode cX10_isColoring 144 = .ok (.getfield 95, 3) := by decide +kernel
theorem dX10_isColoring_147 : decode cX10_isColoring 147 = .ok (.aload_n 0, 1) := by decide +kernel
theorem dX10_isColoring_148 : decode cX10_isColoring 148 = .ok (.iload 6, 2) := by decide +kernel
theorem dX10_isColoring_150 : decode cX10_isColoring 150 = .ok (.iload 7, 2) := by decide +kernel
theorem dX10_isColoring_152 : decode cX10_isColoring 152 = .ok (.invokevirtual 75, 3) := by decide +kernel
theorem dX10_isColoring_155 : decode cX10_isColoring 155 = .ok (.iadd, 1) := by decide +kernel
theorem dX10_isColoring_156 : decode cX10_isColoring 156 = .ok (.putfield 95, 3) := by decide +kernel
theorem dX10_isColoring_159 : decode cX10_isColoring 159 = .ok (.goto 63, 3) := by decide +kernel
theorem dX10_isColoring_162 : decode cX10_isColoring 162 = .ok (.aload_n 0, 1) := by decide +kernel
theorem dX10_isColoring_163 : decode cX10_isColoring 163 = .ok (.getfield 16, 3) := by decide +kernel
theorem dX10_isColoring_166 : decode cX10_isColoring 166 = .ok (.bipush 6, 2) := by decide +kernel
theorem dX10_isColoring_168 : decode cX10_isColoring 168 = .ok (.iload 7, 2) := by decide +kernel
theorem dX10_isColoring_170 : decode cX10_isColoring 170 = .ok (.imul, 1) := by decide +kernel
theorem dX10_isColoring_171 : decode cX10_isColoring 171 = .ok (.iload 6, 2) := by decide +kernel
theorem dX10_isColoring_173 : decode cX10_isColoring 173 = .ok (.iadd, 1) := by decide +kernel
theorem dX10_isColoring_174 : decode cX10_isColoring 174 = .ok (.iaload, 1) := by decide +kernel
theorem dX10_isColoring_175 : decode cX10_isColoring 175 = .ok (.istore 8, 2) := by decide +kernel
theorem dX10_isColoring_177 : decode cX10_isColoring 177 = .ok (.aload_n 0, 1) := by decide +kernel
theorem dX10_isColoring_178 : decode cX10_isColoring 178 = .ok (.getfield 22, 3) := by decide +kernel
theorem dX10_isColoring_181 : decode cX10_isColoring 181 = .ok (.iload 5, 2) := by decide +kernel
theorem dX10_isColoring_183 : decode cX10_isColoring 183 = .ok (.iconst 1, 1) := by decide +kernel
theorem dX10_isColoring_184 : decode cX10_isColoring 184 = .ok (.isub, 1) := by decide +kernel
theorem dX10_isColoring_185 : decode cX10_isColoring 185 = .ok (.iload 8, 2) := by decide +kernel
theorem dX10_isColoring_187 : decode cX10_isColoring 187 = .ok (.iastore, 1) := by decide +kernel
theorem dX10_isColoring_188 : decode cX10_isColoring 188 = .ok (.aload_n 0, 1) := by decide +kernel
theorem dX10_isColoring_189 : decode cX10_isColoring 189 = .ok (.getfield 22, 3) := by decide +kernel
theorem dX10_isColoring_192 : decode cX10_isColoring 192 = .ok (.iload 5, 2) := by decide +kernel
theorem dX10_isColoring_194 : decode cX10_isColoring 194 = .ok (.iload 6, 2) := by decide +kernel
theorem dX10_isColoring_196 : decode cX10_isColoring 196 = .ok (.iastore, 1) := by decide +kernel
theorem dX10_isColoring_197 : decode cX10_isColoring 197 = .ok (.aload_n 0, 1) := by decide +kernel
theorem dX10_isColoring_198 : decode cX10_isColoring 198 = .ok (.dup, 1) := by decide +kernel
theorem dX10_isColoring_199 : decode cX10_isColoring 199 = .ok (.getfield 95, 3) := by decide +kernel
theorem dX10_isColoring_202 : decode cX10_isColoring 202 = .ok (.aload_n 0, 1) := by decide +kernel
theorem dX10_isColoring_203 : decode cX10_isColoring 203 = .ok (.getfield 7, 3) := by decide +kernel
theorem dX10_isColoring_206 : decode cX10_isColoring 206 = .ok (.bipush 87, 2) := by decide +kernel
theorem dX10_isColoring_208 : decode cX10_isColoring 208 = .ok (.iaload, 1) := by decide +kernel
theorem dX10_isColoring_209 : decode cX10_isColoring 209 = .ok (.aload_n 0, 1) := by decide +kernel
theorem dX10_isColoring_210 : decode cX10_isColoring 210 = .ok (.iload 8, 2) := by decide +kernel
theorem dX10_isColoring_212 : decode cX10_isColoring 212 = .ok (.iload 6, 2) := by decide +kernel
theorem dX10_isColoring_214 : decode cX10_isColoring 214 = .ok (.invokevirtual 75, 3) := by decide +kernel
theorem dX10_isColoring_217 : decode cX10_isColoring 217 = .ok (.isub, 1) := by decide +kernel
theorem dX10_isColoring_218 : decode cX10_isColoring 218 = .ok (.iadd, 1) := by decide +kernel
theorem dX10_isColoring_219 : decode cX10_isColoring 219 = .ok (.putfield 95, 3) := by decide +kernel
theorem dX10_isColoring_222 : decode cX10_isColoring 222 = .ok (.iinc 3 1, 3) := by decide +kernel
theorem dX10_isColoring_225 : decode cX10_isColoring 225 = .ok (.goto (-171), 3) := by decide +kernel
theorem dX10_isColoring_228 : decode cX10_isColoring 228 = .ok (.aload_n 0, 1) := by decide +kernel
theorem dX10_isColoring_229 : decode cX10_isColoring 229 = .ok (.dup, 1) := by decide +kernel
theorem dX10_isColoring_230 : decode cX10_isColoring 230 = .ok (.getfield 95, 3) := by decide +kernel
theorem dX10_isColoring_233 : decode cX10_isColoring 233 = .ok (.aload_n 0, 1) := by decide +kernel
theorem dX10_isColoring_234 : decode cX10_isColoring 234 = .ok (.getfield 7, 3) := by decide +kernel
theorem dX10_isColoring_237 : decode cX10_isColoring 237 = .ok (.bipush 87, 2) := by decide +kernel
theorem dX10_isColoring_239 : decode cX10_isColoring 239 = .ok (.iaload, 1) := by decide +kernel
theorem dX10_isColoring_240 : decode cX10_isColoring 240 = .ok (.irem, 1) := by decide +kernel
theorem dX10_isColoring_241 : decode cX10_isColoring 241 = .ok (.putfield 95, 3) := by decide +kernel
theorem dX10_isColoring_244 : decode cX10_isColoring 244 = .ok (.iconst 0, 1) := by decide +kernel
theorem dX10_isColoring_245 : decode cX10_isColoring 245 = .ok (.istore_n 3, 1) := by decide +kernel
theorem dX10_isColoring_246 : decode cX10_isColoring 246 = .ok (.iconst 0, 1) := by decide +kernel
theorem dX10_isColoring_247 : decode cX10_isColoring 247 = .ok (.istore 4, 2) := by decide +kernel
theorem dX10_isColoring_249 : decode cX10_isColoring 249 = .ok (.iload 4, 2) := by decide +kernel
theorem dX10_isColoring_251 : decode cX10_isColoring 251 = .ok (.aload_n 0, 1) := by decide +kernel
theorem dX10_isColoring_252 : decode cX10_isColoring 252 = .ok (.getfield 7, 3) := by decide +kernel
theorem dX10_isColoring_255 : decode cX10_isColoring 255 = .ok (.bipush 85, 2) := by decide +kernel
theorem dX10_isColoring_257 : decode cX10_isColoring 257 = .ok (.iaload, 1) := by decide +kernel
theorem dX10_isColoring_258 : decode cX10_isColoring 258 = .ok (.if_icmp .ge 27, 3) := by decide +kernel
theorem dX10_isColoring_261 : decode cX10_isColoring 261 = .ok (.iload_n 3, 1) := by decide +kernel
theorem dX10_isColoring_262 : decode cX10_isColoring 262 = .ok (.aload_n 0, 1) := by decide +kernel
theorem dX10_isColoring_263 : decode cX10_isColoring 263 = .ok (.getfield 7, 3) := by decide +kernel
theorem dX10_isColoring_266 : decode cX10_isColoring 266 = .ok (.bipush 84, 2) := by decide +kernel
theorem dX10_isColoring_268 : decode cX10_isColoring 268 = .ok (.iaload, 1) := by decide +kernel
theorem dX10_isColoring_269 : decode cX10_isColoring 269 = .ok (.imul, 1) := by decide +kernel
theorem dX10_isColoring_270 : decode cX10_isColoring 270 = .ok (.aload_n 0, 1) := by decide +kernel
theorem dX10_isColoring_271 : decode cX10_isColoring 271 = .ok (.getfield 22, 3) := by decide +kernel
theorem dX10_isColoring_274 : decode cX10_isColoring 274 = .ok (.iload 4, 2) := by decide +kernel
theorem dX10_isColoring_276 : decode cX10_isColoring 276 = .ok (.iaload, 1) := by decide +kernel
theorem dX10_isColoring_277 : decode cX10_isColoring 277 = .ok (.iadd, 1) := by decide +kernel
theorem dX10_isColoring_278 : decode cX10_isColoring 278 = .ok (.istore_n 3, 1) := by decide +kernel
theorem dX10_isColoring_279 : decode cX10_isColoring 279 = .ok (.iinc 4 1, 3) := by decide +kernel
theorem dX10_isColoring_282 : decode cX10_isColoring 282 = .ok (.goto (-33), 3) := by decide +kernel
theorem dX10_isColoring_285 : decode cX10_isColoring 285 = .ok (.iload_n 3, 1) := by decide +kernel
theorem dX10_isColoring_286 : decode cX10_isColoring 286 = .ok (.iload_n 1, 1) := by decide +kernel
theorem dX10_isColoring_287 : decode cX10_isColoring 287 = .ok (.if_icmp .ne 7, 3) := by decide +kernel
theorem dX10_isColoring_290 : decode cX10_isColoring 290 = .ok (.iconst 1, 1) := by decide +kernel
theorem dX10_isColoring_291 : decode cX10_isColoring 291 = .ok (.goto 4, 3) := by decide +kernel
theorem dX10_isColoring_294 : decode cX10_isColoring 294 = .ok (.iconst 0, 1) := by decide +kernel
theorem dX10_isColoring_295 : decode cX10_isColoring 295 = .ok (.ireturn, 1) := by decide +kernel
theorem dX10_coloringCount_0 : decode cX10_coloringCount 0 = .ok (.aload_n 0, 1) := by decide +kernel
theorem dX10_coloringCount_1 : decode cX10_coloringCount 1 = .ok (.invokevirtual 67, 3) := by decide +kernel
theorem dX10_coloringCount_4 : decode cX10_coloringCount 4 = .ok (.bipush (-4), 2) := by decide +kernel
theorem dX10_coloringCount_6 : decode cX10_coloringCount 6 = .ok (.if_icmp .eq 6, 3) := by decide +kernel
theorem dX10_coloringCount_9 : decode cX10_coloringCount 9 = .ok (.bipush (-2), 2) := by decide +kernel
theorem dX10_coloringCount_11 : decode cX10_coloringCount 11 = .ok (.ireturn, 1) := by decide +kernel
theorem dX10_coloringCount_12 : decode cX10_coloringCount 12 = .ok (.iconst 0, 1) := by decide +kernel
theorem dX10_coloringCount_13 : decode cX10_coloringCount 13 = .ok (.istore_n 1, 1) := by decide +kernel
theorem dX10_coloringCount_14 : decode cX10_coloringCount 14 = .ok (.aload_n 0, 1) := by decide +kernel
theorem dX10_coloringCount_15 : decode cX10_coloringCount 15 = .ok (.invokevirtual 98, 3) := by decide +kernel
theorem dX10_coloringCount_18 : decode cX10_coloringCount 18 = .ok (.istore_n 2, 1) := by decide +kernel
theorem dX10_coloringCount_19 : decode cX10_coloringCount 19 = .ok (.iconst 0, 1) := by decide +kernel
theorem dX10_coloringCount_20 : decode cX10_coloringCount 20 = .ok (.istore_n 3, 1) := by decide +kernel
theorem dX10_coloringCount_21 : decode cX10_coloringCount 21 = .ok (.iload_n 3, 1) := by decide +kernel
theorem dX10_coloringCount_22 : decode cX10_coloringCount 22 = .ok (.iload_n 2, 1) := by decide +kernel
theorem dX10_coloringCount_23 : decode cX10_coloringCount 23 = .ok (.if_icmp .ge 25, 3) := by decide +kernel
theorem dX10_coloringCount_26 : decode cX10_coloringCount 26 = .ok (.iload_n 1, 1) := by decide +kernel
theorem dX10_coloringCount_27 : decode cX10_coloringCount 27 = .ok (.aload_n 0, 1) := by decide +kernel
theorem dX10_coloringCount_28 : decode cX10_coloringCount 28 = .ok (.iload_n 3, 1) := by decide +kernel
theorem dX10_coloringCount_29 : decode cX10_coloringCount 29 = .ok (.invokevirtual 101, 3) := by decide +kernel
theorem dX10_coloringCount_32 : decode cX10_coloringCount 32 = .ok (.ifCond .eq 7, 3) := by decide +kernel
theorem dX10_coloringCount_35 : decode cX10_coloringCount 35 = .ok (.iconst 1, 1) := by decide +kernel
theorem dX10_coloringCount_36 : decode cX10_coloringCount 36 = .ok (.goto 4, 3) := by decide +kernel
theorem dX10_coloringCount_39 : decode cX10_coloringCount 39 = .ok (.iconst 0, 1) := by decide +kernel
theorem dX10_coloringCount_40 : decode cX10_coloringCount 40 = .ok (.iadd, 1) := by decide +kernel
theorem dX10_coloringCount_41 : decode cX10_coloringCount 41 = .ok (.istore_n 1, 1) := by decide +kernel
theorem dX10_coloringCount_42 : decode cX10_coloringCount 42 = .ok (.iinc 3 1, 3) := by decide +kernel
theorem dX10_coloringCount_45 : decode cX10_coloringCount 45 = .ok (.goto (-24), 3) := by decide +kernel
theorem dX10_coloringCount_48 : decode cX10_coloringCount 48 = .ok (.iload_n 1, 1) := by decide +kernel
theorem dX10_coloringCount_49 : decode cX10_coloringCount 49 = .ok (.ireturn, 1) := by decide +kernel
theorem dX10_nextColoring_0 : decode cX10_nextColoring 0 = .ok (.iload_n 1, 1) := by decide +kernel
theorem dX10_nextColoring_1 : decode cX10_nextColoring 1 = .ok (.ifCond .ge 5, 3) := by decide +kernel
theorem dX10_nextColoring_4 : decode cX10_nextColoring 4 = .ok (.iconst (-1), 1) := by decide +kernel
theorem dX10_nextColoring_5 : decode cX10_nextColoring 5 = .ok (.ireturn, 1) := by decide +kernel
theorem dX10_nextColoring_6 : decode cX10_nextColoring 6 = .ok (.aload_n 0, 1) := by decide +kernel
theorem dX10_nextColoring_7 : decode cX10_nextColoring 7 = .ok (.invokevirtual 67, 3) := by decide +kernel
theorem dX10_nextColoring_10 : decode cX10_nextColoring 10 = .ok (.bipush (-4), 2) := by decide +kernel
theorem dX10_nextColoring_12 : decode cX10_nextColoring 12 = .ok (.if_icmp .eq 6, 3) := by decide +kernel
theorem dX10_nextColoring_15 : decode cX10_nextColoring 15 = .ok (.bipush (-2), 2) := by decide +kernel
theorem dX10_nextColoring_17 : decode cX10_nextColoring 17 = .ok (.ireturn, 1) := by decide +kernel
theorem dX10_nextColoring_18 : decode cX10_nextColoring 18 = .ok (.aload_n 0, 1) := by decide +kernel
theorem dX10_nextColoring_19 : decode cX10_nextColoring 19 = .ok (.invokevirtual 98, 3) := by decide +kernel
theorem dX10_nextColoring_22 : decode cX10_nextColoring 22 = .ok (.istore_n 2, 1) := by decide +kernel
theorem dX10_nextColoring_23 : decode cX10_nextColoring 23 = .ok (.iload_n 1, 1) := by decide +kernel
theorem dX10_nextColoring_24 : decode cX10_nextColoring 24 = .ok (.istore_n 3, 1) := by decide +kernel
theorem dX10_nextColoring_25 : decode cX10_nextColoring 25 = .ok (.iload_n 3, 1) := by decide +kernel
theorem dX10_nextColoring_26 : decode cX10_nextColoring 26 = .ok (.iload_n 2, 1) := by decide +kernel
theorem dX10_nextColoring_27 : decode cX10_nextColoring 27 = .ok (.if_icmp .ge 19, 3) := by decide +kernel
theorem dX10_nextColoring_30 : decode cX10_nextColoring 30 = .ok (.aload_n 0, 1) := by decide +kernel
theorem dX10_nextColoring_31 : decode cX10_nextColoring 31 = .ok (.iload_n 3, 1) := by decide +kernel
theorem dX10_nextColoring_32 : decode cX10_nextColoring 32 = .ok (.invokevirtual 101, 3) := by decide +kernel
theorem dX10_nextColoring_35 : decode cX10_nextColoring 35 = .ok (.ifCond .eq 5, 3) := by decide +kernel
theorem dX10_nextColoring_38 : decode cX10_nextColoring 38 = .ok (.iload_n 3, 1) := by decide +kernel
theorem dX10_nextColoring_39 : decode cX10_nextColoring 39 = .ok (.ireturn, 1) := by decide +kernel
theorem dX10_nextColoring_40 : decode cX10_nextColoring 40 = .ok (.iinc 3 1, 3) := by decide +kernel
theorem dX10_nextColoring_43 : decode cX10_nextColoring 43 = .ok (.goto (-18), 3) := by decide +kernel
theorem dX10_nextColoring_46 : decode cX10_nextColoring 46 = .ok (.bipush (-4), 2) := by decide +kernel
theorem dX10_nextColoring_48 : decode cX10_nextColoring 48 = .ok (.ireturn, 1) := by decide +kernel
theorem dX10_setModulus_0 : decode cX10_setModulus 0 = .ok (.iload_n 1, 1) := by decide +kernel
theorem dX10_setModulus_1 : decode cX10_setModulus 1 = .ok (.iconst 2, 1) := by decide +kernel
theorem dX10_setModulus_2 : decode cX10_setModulus 2 = .ok (.bipush 12, 2) := by decide +kernel
theorem dX10_setModulus_4 : decode cX10_setModulus 4 = .ok (.invokestatic 37, 3) := by decide +kernel
theorem dX10_setModulus_7 : decode cX10_setModulus 7 = .ok (.ifCond .ne 5, 3) := by decide +kernel
theorem dX10_setModulus_10 : decode cX10_setModulus 10 = .ok (.iconst (-1), 1) := by decide +kernel
theorem dX10_setModulus_11 : decode cX10_setModulus 11 = .ok (.ireturn, 1) := by decide +kernel
theorem dX10_setModulus_12 : decode cX10_setModulus 12 = .ok (.aload_n 0, 1) := by decide +kernel
theorem dX10_setModulus_13 : decode cX10_setModulus 13 = .ok (.invokevirtual 45, 3) := by decide +kernel
theorem dX10_setModulus_16 : decode cX10_setModulus 16 = .ok (.aload_n 0, 1) := by decide +kernel
theorem dX10_setModulus_17 : decode cX10_setModulus 17 = .ok (.getfield 7, 3) := by decide +kernel
theorem dX10_setModulus_20 : decode cX10_setModulus 20 = .ok (.bipush 87, 2) := by decide +kernel
theorem dX10_setModulus_22 : decode cX10_setModulus 22 = .ok (.iaload, 1) := by decide +kernel
theorem dX10_setModulus_23 : decode cX10_setModulus 23 = .ok (.istore_n 2, 1) := by decide +kernel
theorem dX10_setModulus_24 : decode cX10_setModulus 24 = .ok (.aload_n 0, 1) := by decide +kernel
theorem dX10_setModulus_25 : decode cX10_setModulus 25 = .ok (.getfield 7, 3) := by decide +kernel
theorem dX10_setModulus_28 : decode cX10_setModulus 28 = .ok (.bipush 87, 2) := by decide +kernel
theorem dX10_setModulus_30 : decode cX10_setModulus 30 = .ok (.iload_n 1, 1) := by decide +kernel
theorem dX10_setModulus_31 : decode cX10_setModulus 31 = .ok (.iastore, 1) := by decide +kernel
theorem dX10_setModulus_32 : decode cX10_setModulus 32 = .ok (.iconst 0, 1) := by decide +kernel
theorem dX10_setModulus_33 : decode cX10_setModulus 33 = .ok (.istore_n 3, 1) := by decide +kernel
theorem dX10_setModulus_34 : decode cX10_setModulus 34 = .ok (.iload_n 3, 1) := by decide +kernel
theorem dX10_setModulus_35 : decode cX10_setModulus 35 = .ok (.bipush 36, 2) := by decide +kernel
theorem dX10_setModulus_37 : decode cX10_setModulus 37 = .ok (.if_icmp .ge 19, 3) := by decide +kernel
theorem dX10_setModulus_40 : decode cX10_setModulus 40 = .ok (.aload_n 0, 1) := by decide +kernel
theorem dX10_setModulus_41 : decode cX10_setModulus 41 = .ok (.getfield 7, 3) := by decide +kernel
theorem dX10_setModulus_44 : decode cX10_setModulus 44 = .ok (.bipush 36, 2) := by decide +kernel
theorem dX10_setModulus_46 : decode cX10_setModulus 46 = .ok (.iload_n 3, 1) := by decide +kernel
theorem dX10_setModulus_47 : decode cX10_setModulus 47 = .ok (.iadd, 1) := by decide +kernel
theorem dX10_setModulus_48 : decode cX10_setModulus 48 = .ok (.iconst 0, 1) := by decide +kernel
theorem dX10_setModulus_49 : decode cX10_setModulus 49 = .ok (.iastore, 1) := by decide +kernel
theorem dX10_setModulus_50 : decode cX10_setModulus 50 = .ok (.iinc 3 1, 3) := by decide +kernel
theorem dX10_setModulus_53 : decode cX10_setModulus 53 = .ok (.goto (-19), 3) := by decide +kernel
theorem dX10_setModulus_56 : decode cX10_setModulus 56 = .ok (.iload_n 2, 1) := by decide +kernel
theorem dX10_setModulus_57 : decode cX10_setModulus 57 = .ok (.ireturn, 1) := by decide +kernel
theorem dX10_setWeight_0 : decode cX10_setWeight 0 = .ok (.aload_n 0, 1) := by decide +kernel
theorem dX10_setWeight_1 : decode cX10_setWeight 1 = .ok (.iload_n 1, 1) := by decide +kernel
theorem dX10_setWeight_2 : decode cX10_setWeight 2 = .ok (.invokevirtual 71, 3) := by decide +kernel
theorem dX10_setWeight_5 : decode cX10_setWeight 5 = .ok (.ifCond .eq 28, 3) := by decide +kernel
theorem dX10_setWeight_8 : decode cX10_setWeight 8 = .ok (.aload_n 0, 1) := by decide +kernel
theorem dX10_setWeight_9 : decode cX10_setWeight 9 = .ok (.iload_n 2, 1) := by decide +kernel
theorem dX10_setWeight_10 : decode cX10_setWeight 10 = .ok (.invokevirtual 71, 3) := by decide +kernel
theorem dX10_setWeight_13 : decode cX10_setWeight 13 = .ok (.ifCond .eq 20, 3) := by decide +kernel
theorem dX10_setWeight_16 : decode cX10_setWeight 16 = .ok (.iload_n 3, 1) := by decide +kernel
theorem dX10_setWeight_17 : decode cX10_setWeight 17 = .ok (.iconst 0, 1) := by decide +kernel
theorem dX10_setWeight_18 : decode cX10_setWeight 18 = .ok (.aload_n 0, 1) := by decide +kernel
theorem dX10_setWeight_19 : decode cX10_setWeight 19 = .ok (.getfield 7, 3) := by decide +kernel
theorem dX10_setWeight_22 : decode cX10_setWeight 22 = .ok (.bipush 87, 2) := by decide +kernel
theorem dX10_setWeight_24 : decode cX10_setWeight 24 = .ok (.iaload, 1) := by decide +kernel
theorem dX10_setWeight_25 : decode cX10_setWeight 25 = .ok (.iconst 1, 1) := by decide +kernel
theorem dX10_setWeight_26 : decode cX10_setWeight 26 = .ok (.isub, 1) := by decide +kernel
theorem dX10_setWeight_27 : decode cX10_setWeight 27 = .ok (.invokestatic 37, 3) := by decide +kernel
theorem dX10_setWeight_30 : decode cX10_setWeight 30 = .ok (.ifCond .ne 5, 3) := by decide +kernel
theorem dX10_setWeight_33 : decode cX10_setWeight 33 = .ok (.iconst (-1), 1) := by decide +kernel
theorem dX10_setWeight_34 : decode cX10_setWeight 34 = .ok (.ireturn, 1) := by decide +kernel
theorem dX10_setWeight_35 : decode cX10_setWeight 35 = .ok (.aload_n 0, 1) := by decide +kernel
theorem dX10_setWeight_36 : decode cX10_setWeight 36 = .ok (.invokevirtual 45, 3) := by decide +kernel
theorem dX10_setWeight_39 : decode cX10_setWeight 39 = .ok (.aload_n 0, 1) := by decide +kernel
theorem dX10_setWeight_40 : decode cX10_setWeight 40 = .ok (.iload_n 1, 1) := by decide +kernel
theorem dX10_setWeight_41 : decode cX10_setWeight 41 = .ok (.iload_n 2, 1) := by decide +kernel
theorem dX10_setWeight_42 : decode cX10_setWeight 42 = .ok (.invokevirtual 75, 3) := by decide +kernel
theorem dX10_setWeight_45 : decode cX10_setWeight 45 = .ok (.istore 4, 2) := by decide +kernel
theorem dX10_setWeight_47 : decode cX10_setWeight 47 = .ok (.aload_n 0, 1) := by decide +kernel
theorem dX10_setWeight_48 : decode cX10_setWeight 48 = .ok (.getfield 7, 3) := by decide +kernel
theorem dX10_setWeight_51 : decode cX10_setWeight 51 = .ok (.bipush 36, 2) := by decide +kernel
theorem dX10_setWeight_53 : decode cX10_setWeight 53 = .ok (.bipush 6, 2) := by decide +kernel
theorem dX10_setWeight_55 : decode cX10_setWeight 55 = .ok (.iload_n 1, 1) := by decide +kernel
theorem dX10_setWeight_56 : decode cX10_setWeight 56 = .ok (.imul, 1) := by decide +kernel
theorem dX10_setWeight_57 : decode cX10_setWeight 57 = .ok (.iadd, 1) := by decide +kernel
theorem dX10_setWeight_58 : decode cX10_setWeight 58 = .ok (.iload_n 2, 1) := by decide +kernel
theorem dX10_setWeight_59 : decode cX10_setWeight 59 = .ok (.iadd, 1) := by decide +kernel
theorem dX10_setWeight_60 : decode cX10_setWeight 60 = .ok (.iload_n 3, 1) := by decide +kernel
theorem dX10_setWeight_61 : decode cX10_setWeight 61 = .ok (.iastore, 1) := by decide +kernel
theorem dX10_setWeight_62 : decode cX10_setWeight 62 = .ok (.iload 4, 2) := by decide +kernel
theorem dX10_setWeight_64 : decode cX10_setWeight 64 = .ok (.ireturn, 1) := by decide +kernel
theorem dX10_addCoboundary_0 : decode cX10_addCoboundary 0 = .ok (.aload_n 0, 1) := by decide +kernel
theorem dX10_addCoboundary_1 : decode cX10_addCoboundary 1 = .ok (.iload_n 1, 1) := by decide +kernel
theorem dX10_addCoboundary_2 : decode cX10_addCoboundary 2 = .ok (.invokevirtual 71, 3) := by decide +kernel
theorem dX10_addCoboundary_5 : decode cX10_addCoboundary 5 = .ok (.ifCond .eq 20, 3) := by decide +kernel
theorem dX10_addCoboundary_8 : decode cX10_addCoboundary 8 = .ok (.iload_n 2, 1) := by decide +kernel
theorem dX10_addCoboundary_9 : decode cX10_addCoboundary 9 = .ok (.iconst 0, 1) := by decide +kernel
theorem dX10_addCoboundary_10 : decode cX10_addCoboundary 10 = .ok (.aload_n 0, 1) := by decide +kernel
theorem dX10_addCoboundary_11 : decode cX10_addCoboundary 11 = .ok (.getfield 7, 3) := by decide +kernel
theorem dX10_addCoboundary_14 : decode cX10_addCoboundary 14 = .ok (.bipush 87, 2) := by decide +kernel
theorem dX10_addCoboundary_16 : decode cX10_addCoboundary 16 = .ok (.iaload, 1) := by decide +kernel
theorem dX10_addCoboundary_17 : decode cX10_addCoboundary 17 = .ok (.iconst 1, 1) := by decide +kernel
theorem dX10_addCoboundary_18 : decode cX10_addCoboundary 18 = .ok (.isub, 1) := by decide +kernel
theorem dX10_addCoboundary_19 : decode cX10_addCoboundary 19 = .ok (.invokestatic 37, 3) := by decide +kernel
theorem dX10_addCoboundary_22 : decode cX10_addCoboundary 22 = .ok (.ifCond .ne 5, 3) := by decide +kernel
theorem dX10_addCoboundary_25 : decode cX10_addCoboundary 25 = .ok (.iconst (-1), 1) := by decide +kernel
theorem dX10_addCoboundary_26 : decode cX10_addCoboundary 26 = .ok (.ireturn, 1) := by decide +kernel
theorem dX10_addCoboundary_27 : decode cX10_addCoboundary 27 = .ok (.aload_n 0, 1) := by decide +kernel
theorem dX10_addCoboundary_28 : decode cX10_addCoboundary 28 = .ok (.invokevirtual 45, 3) := by decide +kernel
theorem dX10_addCoboundary_31 : decode cX10_addCoboundary 31 = .ok (.iconst 0, 1) := by decide +kernel
theorem dX10_addCoboundary_32 : decode cX10_addCoboundary 32 = .ok (.istore_n 3, 1) := by decide +kernel
theorem dX10_addCoboundary_33 : decode cX10_addCoboundary 33 = .ok (.iconst 0, 1) := by decide +kernel
theorem dX10_addCoboundary_34 : decode cX10_addCoboundary 34 = .ok (.istore 4, 2) := by decide +kernel
theorem dX10_addCoboundary_36 : decode cX10_addCoboundary 36 = .ok (.iload 4, 2) := by decide +kernel
theorem dX10_addCoboundary_38 : decode cX10_addCoboundary 38 = .ok (.aload_n 0, 1) := by decide +kernel
theorem dX10_addCoboundary_39 : decode cX10_addCoboundary 39 = .ok (.getfield 7, 3) := by decide +kernel
theorem dX10_addCoboundary_42 : decode cX10_addCoboundary 42 = .ok (.bipush 84, 2) := by decide +kernel
theorem dX10_addCoboundary_44 : decode cX10_addCoboundary 44 = .ok (.iaload, 1) := by decide +kernel
theorem dX10_addCoboundary_45 : decode cX10_addCoboundary 45 = .ok (.if_icmp .ge 123, 3) := by decide +kernel
theorem dX10_addCoboundary_48 : decode cX10_addCoboundary 48 = .ok (.iconst 0, 1) := by decide +kernel
theorem dX10_addCoboundary_49 : decode cX10_addCoboundary 49 = .ok (.istore 5, 2) := by decide +kernel
theorem dX10_addCoboundary_51 : decode cX10_addCoboundary 51 = .ok (.iload 5, 2) := by decide +kernel
theorem dX10_addCoboundary_53 : decode cX10_addCoboundary 53 = .ok (.aload_n 0, 1) := by decide +kernel
theorem dX10_addCoboundary_54 : decode cX10_addCoboundary 54 = .ok (.getfield 7, 3) := by decide +kernel
theorem dX10_addCoboundary_57 : decode cX10_addCoboundary 57 = .ok (.bipush 84, 2) := by decide +kernel
theorem dX10_addCoboundary_59 : decode cX10_addCoboundary 59 = .ok (.iaload, 1) := by decide +kernel
theorem dX10_addCoboundary_60 : decode cX10_addCoboundary 60 = .ok (.if_icmp .ge 102, 3) := by decide +kernel
theorem dX10_addCoboundary_63 : decode cX10_addCoboundary 63 = .ok (.aload_n 0, 1) := by decide +kernel
theorem dX10_addCoboundary_64 : decode cX10_addCoboundary 64 = .ok (.iload 4, 2) := by decide +kernel
theorem dX10_addCoboundary_66 : decode cX10_addCoboundary 66 = .ok (.iload 5, 2) := by decide +kernel
theorem dX10_addCoboundary_68 : decode cX10_addCoboundary 68 = .ok (.invokevirtual 75, 3) := by decide +kernel
theorem dX10_addCoboundary_71 : decode cX10_addCoboundary 71 = .ok (.istore 6, 2) := by decide +kernel
theorem dX10_addCoboundary_73 : decode cX10_addCoboundary 73 = .ok (.iload 6, 2) := by decide +kernel
theorem dX10_addCoboundary_75 : decode cX10_addCoboundary 75 = .ok (.iload 4, 2) := by decide +kernel
theorem dX10_addCoboundary_77 : decode cX10_addCoboundary 77 = .ok (.iload_n 1, 1) := by decide +kernel
theorem dX10_addCoboundary_78 : decode cX10_addCoboundary 78 = .ok (.if_icmp .ne 7, 3) := by decide +kernel
theorem dX10_addCoboundary_81 : decode cX10_addCoboundary 81 = .ok (.iload_n 2, 1) := by decide +kernel
theorem dX10_addCoboundary_82 : decode cX10_addCoboundary 82 = .ok (.goto 4, 3) := by decide +kernel
theorem dX10_addCoboundary_85 : decode cX10_addCoboundary 85 = .ok (.iconst 0, 1) := by decide +kernel
theorem dX10_addCoboundary_86 : decode cX10_addCoboundary 86 = .ok (.iadd, 1) := by decide +kernel
theorem dX10_addCoboundary_87 : decode cX10_addCoboundary 87 = .ok (.aload_n 0, 1) := by decide +kernel
theorem dX10_addCoboundary_88 : decode cX10_addCoboundary 88 = .ok (.iload 4, 2) := by decide +kernel
theorem dX10_addCoboundary_90 : decode cX10_addCoboundary 90 = .ok (.iload 5, 2) := by decide +kernel
theorem dX10_addCoboundary_92 : decode cX10_addCoboundary 92 = .ok (.invokevirtual 78, 3) := by decide +kernel
theorem dX10_addCoboundary_95 : decode cX10_addCoboundary 95 = .ok (.iload_n 1, 1) := by decide +kernel
theorem dX10_addCoboundary_96 : decode cX10_addCoboundary 96 = .ok (.if_icmp .ne 15, 3) := by decide +kernel
theorem dX10_addCoboundary_99 : decode cX10_addCoboundary 99 = .ok (.aload_n 0, 1) := by decide +kernel
theorem dX10_addCoboundary_100 : decode cX10_addCoboundary 100 = .ok (.getfield 7, 3) := by decide +kernel
theorem dX10_addCoboundary_103 : decode cX10_addCoboundary 103 = .ok (.bipush 87, 2) := by decide +kernel
theorem dX10_addCoboundary_105 : decode cX10_addCoboundary 105 = .ok (.iaload, 1) := by decide +kernel
theorem dX10_addCoboundary_106 : decode cX10_addCoboundary 106 = .ok (.iload_n 2, 1) := by decide +kernel
theorem dX10_addCoboundary_107 : decode cX10_addCoboundary 107 = .ok (.isub, 1) := by decide +kernel
theorem dX10_addCoboundary_108 : decode cX10_addCoboundary 108 = .ok (.goto 4, 3) := by decide +kernel
theorem dX10_addCoboundary_111 : decode cX10_addCoboundary 111 = .ok (.iconst 0, 1) := by decide +kernel
theorem dX10_addCoboundary_112 : decode cX10_addCoboundary 112 = .ok (.iadd, 1) := by decide +kernel
theorem dX10_addCoboundary_113 : decode cX10_addCoboundary 113 = .ok (.aload_n 0, 1) := by decide +kernel
theorem dX10_addCoboundary_114 : decode cX10_addCoboundary 114 = .ok (.getfield 7, 3) := by decide +kernel
theorem dX10_addCoboundary_117 : decode cX10_addCoboundary 117 = .ok (.bipush 87, 2) := by decide +kernel
theorem dX10_addCoboundary_119 : decode cX10_addCoboundary 119 = .ok (.iaload, 1) := by decide +kernel
theorem dX10_addCoboundary_120 : decode cX10_addCoboundary 120 = .ok (.irem, 1) := by decide +kernel
theorem dX10_addCoboundary_121 : decode cX10_addCoboundary 121 = .ok (.istore 7, 2) := by decide +kernel
theorem dX10_addCoboundary_123 : decode cX10_addCoboundary 123 = .ok (.aload_n 0, 1) := by decide +kernel
theorem dX10_addCoboundary_124 : decode cX10_addCoboundary 124 = .ok (.getfield 7, 3) := by decide +kernel
theorem dX10_addCoboundary_127 : decode cX10_addCoboundary 127 = .ok (.bipush 36, 2) := by decide +kernel
theorem dX10_addCoboundary_129 : decode cX10_addCoboundary 129 = .ok (.bipush 6, 2) := by decide +kernel
theorem dX10_addCoboundary_131 : decode cX10_addCoboundary 131 = .ok (.iload 4, 2) := by decide +kernel
theorem dX10_addCoboundary_133 : decode cX10_addCoboundary 133 = .ok (.imul, 1) := by decide +kernel
theorem dX10_addCoboundary_134 : decode cX10_addCoboundary 134 = .ok (.iadd, 1) := by decide +kernel
theorem dX10_addCoboundary_135 : decode cX10_addCoboundary 135 = .ok (.iload 5, 2) := by decide +kernel
theorem dX10_addCoboundary_137 : decode cX10_addCoboundary 137 = .ok (.iadd, 1) := by decide +kernel
theorem dX10_addCoboundary_138 : decode cX10_addCoboundary 138 = .ok (.iload 7, 2) := by decide +kernel
theorem dX10_addCoboundary_140 : decode cX10_addCoboundary 140 = .ok (.iastore, 1) := by decide +kernel
theorem dX10_addCoboundary_141 : decode cX10_addCoboundary 141 = .ok (.iload_n 3, 1) := by decide +kernel
theorem dX10_addCoboundary_142 : decode cX10_addCoboundary 142 = .ok (.iload 7, 2) := by decide +kernel
theorem dX10_addCoboundary_144 : decode cX10_addCoboundary 144 = .ok (.iload 6, 2) := by decide +kernel
theorem dX10_addCoboundary_146 : decode cX10_addCoboundary 146 = .ok (.if_icmp .ne 7, 3) := by decide +kernel
theorem dX10_addCoboundary_149 : decode cX10_addCoboundary 149 = .ok (.iconst 0, 1) := by decide +kernel
theorem dX10_addCoboundary_150 : decode cX10_addCoboundary 150 = .ok (.goto 4, 3) := by decide +kernel
theorem dX10_addCoboundary_153 : decode cX10_addCoboundary 153 = .ok (.iconst 1, 1) := by decide +kernel
theorem dX10_addCoboundary_154 : decode cX10_addCoboundary 154 = .ok (.iadd, 1) := by decide +kernel
theorem dX10_addCoboundary_155 : decode cX10_addCoboundary 155 = .ok (.istore_n 3, 1) := by decide +kernel
theorem dX10_addCoboundary_156 : decode cX10_addCoboundary 156 = .ok (.iinc 5 1, 3) := by decide +kernel
theorem dX10_addCoboundary_159 : decode cX10_addCoboundary 159 = .ok (.goto (-108), 3) := by decide +kernel
theorem dX10_addCoboundary_162 : decode cX10_addCoboundary 162 = .ok (.iinc 4 1, 3) := by decide +kernel
theorem dX10_addCoboundary_165 : decode cX10_addCoboundary 165 = .ok (.goto (-129), 3) := by decide +kernel
theorem dX10_addCoboundary_168 : decode cX10_addCoboundary 168 = .ok (.iload_n 3, 1) := by decide +kernel
theorem dX10_addCoboundary_169 : decode cX10_addCoboundary 169 = .ok (.ireturn, 1) := by decide +kernel
theorem dX10_weight_0 : decode cX10_weight 0 = .ok (.aload_n 0, 1) := by decide +kernel
theorem dX10_weight_1 : decode cX10_weight 1 = .ok (.iload_n 1, 1) := by decide +kernel
theorem dX10_weight_2 : decode cX10_weight 2 = .ok (.invokevirtual 71, 3) := by decide +kernel
theorem dX10_weight_5 : decode cX10_weight 5 = .ok (.ifCond .eq 20, 3) := by decide +kernel
theorem dX10_weight_8 : decode cX10_weight 8 = .ok (.aload_n 0, 1) := by decide +kernel
theorem dX10_weight_9 : decode cX10_weight 9 = .ok (.iload_n 2, 1) := by decide +kernel
theorem dX10_weight_10 : decode cX10_weight 10 = .ok (.invokevirtual 71, 3) := by decide +kernel
theorem dX10_weight_13 : decode cX10_weight 13 = .ok (.ifCond .eq 12, 3) := by decide +kernel
theorem dX10_weight_16 : decode cX10_weight 16 = .ok (.aload_n 0, 1) := by decide +kernel
theorem dX10_weight_17 : decode cX10_weight 17 = .ok (.iload_n 1, 1) := by decide +kernel
theorem dX10_weight_18 : decode cX10_weight 18 = .ok (.iload_n 2, 1) := by decide +kernel
theorem dX10_weight_19 : decode cX10_weight 19 = .ok (.invokevirtual 75, 3) := by decide +kernel
theorem dX10_weight_22 : decode cX10_weight 22 = .ok (.goto 4, 3) := by decide +kernel
theorem dX10_weight_25 : decode cX10_weight 25 = .ok (.iconst (-1), 1) := by decide +kernel
theorem dX10_weight_26 : decode cX10_weight 26 = .ok (.ireturn, 1) := by decide +kernel
theorem dX10_cocycleViolation_0 : decode cX10_cocycleViolation 0 = .ok (.aload_n 0, 1) := by decide +kernel
theorem dX10_cocycleViolation_1 : decode cX10_cocycleViolation 1 = .ok (.iconst 1, 1) := by decide +kernel
theorem dX10_cocycleViolation_2 : decode cX10_cocycleViolation 2 = .ok (.invokevirtual 81, 3) := by decide +kernel
theorem dX10_cocycleViolation_5 : decode cX10_cocycleViolation 5 = .ok (.ireturn, 1) := by decide +kernel
theorem dX10_stateSum_0 : decode cX10_stateSum 0 = .ok (.iload_n 1, 1) := by decide +kernel
theorem dX10_stateSum_1 : decode cX10_stateSum 1 = .ok (.iconst 0, 1) := by decide +kernel
theorem dX10_stateSum_2 : decode cX10_stateSum 2 = .ok (.aload_n 0, 1) := by decide +kernel
theorem dX10_stateSum_3 : decode cX10_stateSum 3 = .ok (.getfield 7, 3) := by decide +kernel
theorem dX10_stateSum_6 : decode cX10_stateSum 6 = .ok (.bipush 87, 2) := by decide +kernel
theorem dX10_stateSum_8 : decode cX10_stateSum 8 = .ok (.iaload, 1) := by decide +kernel
theorem dX10_stateSum_9 : decode cX10_stateSum 9 = .ok (.iconst 1, 1) := by decide +kernel
theorem dX10_stateSum_10 : decode cX10_stateSum 10 = .ok (.isub, 1) := by decide +kernel
theorem dX10_stateSum_11 : decode cX10_stateSum 11 = .ok (.invokestatic 37, 3) := by decide +kernel
theorem dX10_stateSum_14 : decode cX10_stateSum 14 = .ok (.ifCond .ne 5, 3) := by decide +kernel
theorem dX10_stateSum_17 : decode cX10_stateSum 17 = .ok (.iconst (-1), 1) := by decide +kernel
theorem dX10_stateSum_18 : decode cX10_stateSum 18 = .ok (.ireturn, 1) := by decide +kernel
theorem dX10_stateSum_19 : decode cX10_stateSum 19 = .ok (.aload_n 0, 1) := by decide +kernel
theorem dX10_stateSum_20 : decode cX10_stateSum 20 = .ok (.invokevirtual 67, 3) := by decide +kernel
theorem dX10_stateSum_23 : decode cX10_stateSum 23 = .ok (.bipush (-4), 2) := by decide +kernel
theorem dX10_stateSum_25 : decode cX10_stateSum 25 = .ok (.if_icmp .eq 6, 3) := by decide +kernel
theorem dX10_stateSum_28 : decode cX10_stateSum 28 = .ok (.bipush (-2), 2) := by decide +kernel
theorem dX10_stateSum_30 : decode cX10_stateSum 30 = .ok (.ireturn, 1) := by decide +kernel
theorem dX10_stateSum_31 : decode cX10_stateSum 31 = .ok (.iconst 0, 1) := by decide +kernel
theorem dX10_stateSum_32 : decode cX10_stateSum 32 = .ok (.istore_n 2, 1) := by decide +kernel
theorem dX10_stateSum_33 : decode cX10_stateSum 33 = .ok (.aload_n 0, 1) := by decide +kernel
theorem dX10_stateSum_34 : decode cX10_stateSum 34 = .ok (.invokevirtual 98, 3) := by decide +kernel
theorem dX10_stateSum_37 : decode cX10_stateSum 37 = .ok (.istore_n 3, 1) := by decide +kernel
theorem dX10_stateSum_38 : decode cX10_stateSum 38 = .ok (.iconst 0, 1) := by decide +kernel
theorem dX10_stateSum_39 : decode cX10_stateSum 39 = .ok (.istore 4, 2) := by decide +kernel
theorem dX10_stateSum_41 : decode cX10_stateSum 41 = .ok (.iload 4, 2) := by decide +kernel
theorem dX10_stateSum_43 : decode cX10_stateSum 43 = .ok (.iload_n 3, 1) := by decide +kernel
theorem dX10_stateSum_44 : decode cX10_stateSum 44 = .ok (.if_icmp .ge 34, 3) := by decide +kernel
theorem dX10_stateSum_47 : decode cX10_stateSum 47 = .ok (.iload_n 2, 1) := by decide +kernel
theorem dX10_stateSum_48 : decode cX10_stateSum 48 = .ok (.aload_n 0, 1) := by decide +kernel
theorem dX10_stateSum_49 : decode cX10_stateSum 49 = .ok (.iload 4, 2) := by decide +kernel
theorem dX10_stateSum_51 : decode cX10_stateSum 51 = .ok (.invokevirtual 101, 3) := by decide +kernel
theorem dX10_stateSum_54 : decode cX10_stateSum 54 = .ok (.ifCond .eq 15, 3) := by decide +kernel
theorem dX10_stateSum_57 : decode cX10_stateSum 57 = .ok (.aload_n 0, 1) := by decide +kernel
theorem dX10_stateSum_58 : decode cX10_stateSum 58 = .ok (.getfield 95, 3) := by decide +kernel
theorem dX10_stateSum_61 : decode cX10_stateSum 61 = .ok (.iload_n 1, 1) := by decide +kernel
theorem dX10_stateSum_62 : decode cX10_stateSum 62 = .ok (.if_icmp .ne 7, 3) := by decide +kernel
theorem dX10_stateSum_65 : decode cX10_stateSum 65 = .ok (.iconst 1, 1) := by decide +kernel
theorem dX10_stateSum_66 : decode cX10_stateSum 66 = .ok (.goto 4, 3) := by decide +kernel
theorem dX10_stateSum_69 : decode cX10_stateSum 69 = .ok (.iconst 0, 1) := by decide +kernel
theorem dX10_stateSum_70 : decode cX10_stateSum 70 = .ok (.iadd, 1) := by decide +kernel
theorem dX10_stateSum_71 : decode cX10_stateSum 71 = .ok (.istore_n 2, 1) := by decide +kernel
theorem dX10_stateSum_72 : decode cX10_stateSum 72 = .ok (.iinc 4 1, 3) := by decide +kernel
theorem dX10_stateSum_75 : decode cX10_stateSum 75 = .ok (.goto (-34), 3) := by decide +kernel
theorem dX10_stateSum_78 : decode cX10_stateSum 78 = .ok (.iload_n 2, 1) := by decide +kernel
theorem dX10_stateSum_79 : decode cX10_stateSum 79 = .ok (.ireturn, 1) := by decide +kernel
theorem dJ6_bitCount_0f7a4_0 : decode cJ6_bitCount_0f7a4 0 = .ok (.iload_n 0, 1) := by decide +kernel
theorem dJ6_bitCount_0f7a4_1 : decode cJ6_bitCount_0f7a4 1 = .ok (.iload_n 0, 1) := by decide +kernel
theorem dJ6_bitCount_0f7a4_2 : decode cJ6_bitCount_0f7a4 2 = .ok (.iconst 1, 1) := by decide +kernel
theorem dJ6_bitCount_0f7a4_3 : decode cJ6_bitCount_0f7a4 3 = .ok (.iushr, 1) := by decide +kernel
theorem dJ6_bitCount_0f7a4_4 : decode cJ6_bitCount_0f7a4 4 = .ok (.ldc_w 265, 3) := by decide +kernel
theorem dJ6_bitCount_0f7a4_7 : decode cJ6_bitCount_0f7a4 7 = .ok (.iand, 1) := by decide +kernel
theorem dJ6_bitCount_0f7a4_8 : decode cJ6_bitCount_0f7a4 8 = .ok (.isub, 1) := by decide +kernel
theorem dJ6_bitCount_0f7a4_9 : decode cJ6_bitCount_0f7a4 9 = .ok (.istore_n 0, 1) := by decide +kernel
theorem dJ6_bitCount_0f7a4_10 : decode cJ6_bitCount_0f7a4 10 = .ok (.iload_n 0, 1) := by decide +kernel
theorem dJ6_bitCount_0f7a4_11 : decode cJ6_bitCount_0f7a4 11 = .ok (.ldc_w 266, 3) := by decide +kernel
theorem dJ6_bitCount_0f7a4_14 : decode cJ6_bitCount_0f7a4 14 = .ok (.iand, 1) := by decide +kernel
theorem dJ6_bitCount_0f7a4_15 : decode cJ6_bitCount_0f7a4 15 = .ok (.iload_n 0, 1) := by decide +kernel
theorem dJ6_bitCount_0f7a4_16 : decode cJ6_bitCount_0f7a4 16 = .ok (.iconst 2, 1) := by decide +kernel
theorem dJ6_bitCount_0f7a4_17 : decode cJ6_bitCount_0f7a4 17 = .ok (.iushr, 1) := by decide +kernel
theorem dJ6_bitCount_0f7a4_18 : decode cJ6_bitCount_0f7a4 18 = .ok (.ldc_w 266, 3) := by decide +kernel
theorem dJ6_bitCount_0f7a4_21 : decode cJ6_bitCount_0f7a4 21 = .ok (.iand, 1) := by decide +kernel
theorem dJ6_bitCount_0f7a4_22 : decode cJ6_bitCount_0f7a4 22 = .ok (.iadd, 1) := by decide +kernel
theorem dJ6_bitCount_0f7a4_23 : decode cJ6_bitCount_0f7a4 23 = .ok (.istore_n 0, 1) := by decide +kernel
theorem dJ6_bitCount_0f7a4_24 : decode cJ6_bitCount_0f7a4 24 = .ok (.iload_n 0, 1) := by decide +kernel
theorem dJ6_bitCount_0f7a4_25 : decode cJ6_bitCount_0f7a4 25 = .ok (.iload_n 0, 1) := by decide +kernel
theorem dJ6_bitCount_0f7a4_26 : decode cJ6_bitCount_0f7a4 26 = .ok (.iconst 4, 1) := by decide +kernel
theorem dJ6_bitCount_0f7a4_27 : decode cJ6_bitCount_0f7a4 27 = .ok (.iushr, 1) := by decide +kernel
theorem dJ6_bitCount_0f7a4_28 : decode cJ6_bitCount_0f7a4 28 = .ok (.iadd, 1) := by decide +kernel
theorem dJ6_bitCount_0f7a4_29 : decode cJ6_bitCount_0f7a4 29 = .ok (.ldc_w 267, 3) := by decide +kernel
theorem dJ6_bitCount_0f7a4_32 : decode cJ6_bitCount_0f7a4 32 = .ok (.iand, 1) := by decide +kernel
theorem dJ6_bitCount_0f7a4_33 : decode cJ6_bitCount_0f7a4 33 = .ok (.istore_n 0, 1) := by decide +kernel
theorem dJ6_bitCount_0f7a4_34 : decode cJ6_bitCount_0f7a4 34 = .ok (.iload_n 0, 1) := by decide +kernel
theorem dJ6_bitCount_0f7a4_35 : decode cJ6_bitCount_0f7a4 35 = .ok (.iload_n 0, 1) := by decide +kernel
theorem dJ6_bitCount_0f7a4_36 : decode cJ6_bitCount_0f7a4 36 = .ok (.bipush 8, 2) := by decide +kernel
theorem dJ6_bitCount_0f7a4_38 : decode cJ6_bitCount_0f7a4 38 = .ok (.iushr, 1) := by decide +kernel
theorem dJ6_bitCount_0f7a4_39 : decode cJ6_bitCount_0f7a4 39 = .ok (.iadd, 1) := by decide +kernel
theorem dJ6_bitCount_0f7a4_40 : decode cJ6_bitCount_0f7a4 40 = .ok (.istore_n 0, 1) := by decide +kernel
theorem dJ6_bitCount_0f7a4_41 : decode cJ6_bitCount_0f7a4 41 = .ok (.iload_n 0, 1) := by decide +kernel
theorem dJ6_bitCount_0f7a4_42 : decode cJ6_bitCount_0f7a4 42 = .ok (.iload_n 0, 1) := by decide +kernel
theorem dJ6_bitCount_0f7a4_43 : decode cJ6_bitCount_0f7a4 43 = .ok (.bipush 16, 2) := by decide +kernel
theorem dJ6_bitCount_0f7a4_45 : decode cJ6_bitCount_0f7a4 45 = .ok (.iushr, 1) := by decide +kernel
theorem dJ6_bitCount_0f7a4_46 : decode cJ6_bitCount_0f7a4 46 = .ok (.iadd, 1) := by decide +kernel
theorem dJ6_bitCount_0f7a4_47 : decode cJ6_bitCount_0f7a4 47 = .ok (.istore_n 0, 1) := by decide +kernel
theorem dJ6_bitCount_0f7a4_48 : decode cJ6_bitCount_0f7a4 48 = .ok (.iload_n 0, 1) := by decide +kernel
theorem dJ6_bitCount_0f7a4_49 : decode cJ6_bitCount_0f7a4 49 = .ok (.bipush 63, 2) := by decide +kernel
theorem dJ6_bitCount_0f7a4_51 : decode cJ6_bitCount_0f7a4 51 = .ok (.iand, 1) := by decide +kernel
theorem dJ6_bitCount_0f7a4_52 : decode cJ6_bitCount_0f7a4 52 = .ok (.ireturn, 1) := by decide +kernel
theorem dJ9_floorMod_7cf53_0 : decode cJ9_floorMod_7cf53 0 = .ok (.iload_n 0, 1) := by decide +kernel
theorem dJ9_floorMod_7cf53_1 : decode cJ9_floorMod_7cf53 1 = .ok (.iload_n 1, 1) := by decide +kernel
theorem dJ9_floorMod_7cf53_2 : decode cJ9_floorMod_7cf53 2 = .ok (.irem, 1) := by decide +kernel
theorem dJ9_floorMod_7cf53_3 : decode cJ9_floorMod_7cf53 3 = .ok (.istore_n 2, 1) := by decide +kernel
theorem dJ9_floorMod_7cf53_4 : decode cJ9_floorMod_7cf53 4 = .ok (.iload_n 0, 1) := by decide +kernel
theorem dJ9_floorMod_7cf53_5 : decode cJ9_floorMod_7cf53 5 = .ok (.iload_n 1, 1) := by decide +kernel
theorem dJ9_floorMod_7cf53_6 : decode cJ9_floorMod_7cf53 6 = .ok (.ixor, 1) := by decide +kernel
theorem dJ9_floorMod_7cf53_7 : decode cJ9_floorMod_7cf53 7 = .ok (.ifCond .ge 11, 3) := by decide +kernel
theorem dJ9_floorMod_7cf53_10 : decode cJ9_floorMod_7cf53 10 = .ok (.iload_n 2, 1) := by decide +kernel
theorem dJ9_floorMod_7cf53_11 : decode cJ9_floorMod_7cf53 11 = .ok (.ifCond .eq 7, 3) := by decide +kernel
theorem dJ9_floorMod_7cf53_14 : decode cJ9_floorMod_7cf53 14 = .ok (.iload_n 2, 1) := by decide +kernel
theorem dJ9_floorMod_7cf53_15 : decode cJ9_floorMod_7cf53 15 = .ok (.iload_n 1, 1) := by decide +kernel
theorem dJ9_floorMod_7cf53_16 : decode cJ9_floorMod_7cf53 16 = .ok (.iadd, 1) := by decide +kernel
theorem dJ9_floorMod_7cf53_17 : decode cJ9_floorMod_7cf53 17 = .ok (.ireturn, 1) := by decide +kernel
theorem dJ9_floorMod_7cf53_18 : decode cJ9_floorMod_7cf53 18 = .ok (.iload_n 2, 1) := by decide +kernel
theorem dJ9_floorMod_7cf53_19 : decode cJ9_floorMod_7cf53 19 = .ok (.ireturn, 1) := by decide +kernel
theorem dJ9_abs_0f7a4_0 : decode cJ9_abs_0f7a4 0 = .ok (.iload_n 0, 1) := by decide +kernel
theorem dJ9_abs_0f7a4_1 : decode cJ9_abs_0f7a4 1 = .ok (.ifCond .ge 8, 3) := by decide +kernel
theorem dJ9_abs_0f7a4_4 : decode cJ9_abs_0f7a4 4 = .ok (.iload_n 0, 1) := by decide +kernel
theorem dJ9_abs_0f7a4_5 : decode cJ9_abs_0f7a4 5 = .ok (.ineg, 1) := by decide +kernel
theorem dJ9_abs_0f7a4_6 : decode cJ9_abs_0f7a4 6 = .ok (.goto 4, 3) := by decide +kernel
theorem dJ9_abs_0f7a4_9 : decode cJ9_abs_0f7a4 9 = .ok (.iload_n 0, 1) := by decide +kernel
theorem dJ9_abs_0f7a4_10 : decode cJ9_abs_0f7a4 10 = .ok (.ireturn, 1) := by decide +kernel
theorem dJ9_min_7cf53_0 : decode cJ9_min_7cf53 0 = .ok (.iload_n 0, 1) := by decide +kernel
theorem dJ9_min_7cf53_1 : decode cJ9_min_7cf53 1 = .ok (.iload_n 1, 1) := by decide +kernel
theorem dJ9_min_7cf53_2 : decode cJ9_min_7cf53 2 = .ok (.if_icmp .gt 7, 3) := by decide +kernel
theorem dJ9_min_7cf53_5 : decode cJ9_min_7cf53 5 = .ok (.iload_n 0, 1) := by decide +kernel
theorem dJ9_min_7cf53_6 : decode cJ9_min_7cf53 6 = .ok (.goto 4, 3) := by decide +kernel
theorem dJ9_min_7cf53_9 : decode cJ9_min_7cf53 9 = .ok (.iload_n 1, 1) := by decide +kernel
theorem dJ9_min_7cf53_10 : decode cJ9_min_7cf53 10 = .ok (.ireturn, 1) := by decide +kernel
