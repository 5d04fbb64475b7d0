/-! printed: decode rows and words of the reference's methods -/
theorem dX6_init_0 : decode cX6_init 0 = .ok (.aload_n 0, 1) := by decide +kernel
theorem dX6_init_1 : decode cX6_init 1 = .ok (.invokespecial 1, 3) := by decide +kernel
theorem dX6_init_4 : decode cX6_init 4 = .ok (.aload_n 0, 1) := by decide +kernel
theorem dX6_init_5 : decode cX6_init 5 = .ok (.iconst 2, 1) := by decide +kernel
theorem dX6_init_6 : decode cX6_init 6 = .ok (.newarray .int, 2) := by decide +kernel
theorem dX6_init_8 : decode cX6_init 8 = .ok (.putfield 7, 3) := by decide +kernel
theorem dX6_init_11 : decode cX6_init 11 = .ok (.aload_n 0, 1) := by decide +kernel
theorem dX6_init_12 : decode cX6_init 12 = .ok (.sipush 6600, 3) := by decide +kernel
theorem dX6_init_15 : decode cX6_init 15 = .ok (.newarray .int, 2) := by decide +kernel
theorem dX6_init_17 : decode cX6_init 17 = .ok (.putfield 13, 3) := by decide +kernel
theorem dX6_init_20 : decode cX6_init 20 = .ok (.aload_n 0, 1) := by decide +kernel
theorem dX6_init_21 : decode cX6_init 21 = .ok (.sipush 6600, 3) := by decide +kernel
theorem dX6_init_24 : decode cX6_init 24 = .ok (.newarray .int, 2) := by decide +kernel
theorem dX6_init_26 : decode cX6_init 26 = .ok (.putfield 16, 3) := by decide +kernel
theorem dX6_init_29 : decode cX6_init 29 = .ok (.aload_n 0, 1) := by decide +kernel
theorem dX6_init_30 : decode cX6_init 30 = .ok (.sipush 6600, 3) := by decide +kernel
theorem dX6_init_33 : decode cX6_init 33 = .ok (.newarray .int, 2) := by decide +kernel
theorem dX6_init_35 : decode cX6_init 35 = .ok (.putfield 19, 3) := by decide +kernel
theorem dX6_init_38 : decode cX6_init 38 = .ok (.aload_n 0, 1) := by decide +kernel
theorem dX6_init_39 : decode cX6_init 39 = .ok (.sipush 6600, 3) := by decide +kernel
theorem dX6_init_42 : decode cX6_init 42 = .ok (.newarray .long, 2) := by decide +kernel
theorem dX6_init_44 : decode cX6_init 44 = .ok (.putfield 22, 3) := by decide +kernel
theorem dX6_init_47 : decode cX6_init 47 = .ok (.aload_n 0, 1) := by decide +kernel
theorem dX6_init_48 : decode cX6_init 48 = .ok (.sipush 6600, 3) := by decide +kernel
theorem dX6_init_51 : decode cX6_init 51 = .ok (.newarray .int, 2) := by decide +kernel
theorem dX6_init_53 : decode cX6_init 53 = .ok (.putfield 26, 3) := by decide +kernel
theorem dX6_init_56 : decode cX6_init 56 = .ok (.aload_n 0, 1) := by decide +kernel
theorem dX6_init_57 : decode cX6_init 57 = .ok (.iconst (-1), 1) := by decide +kernel
theorem dX6_init_58 : decode cX6_init 58 = .ok (.putfield 29, 3) := by decide +kernel
theorem dX6_init_61 : decode cX6_init 61 = .ok (.aload_n 0, 1) := by decide +kernel
theorem dX6_init_62 : decode cX6_init 62 = .ok (.bipush 80, 2) := by decide +kernel
theorem dX6_init_64 : decode cX6_init 64 = .ok (.newarray .int, 2) := by decide +kernel
theorem dX6_init_66 : decode cX6_init 66 = .ok (.putfield 33, 3) := by decide +kernel
theorem dX6_init_69 : decode cX6_init 69 = .ok (.aload_n 0, 1) := by decide +kernel
theorem dX6_init_70 : decode cX6_init 70 = .ok (.bipush 80, 2) := by decide +kernel
theorem dX6_init_72 : decode cX6_init 72 = .ok (.newarray .long, 2) := by decide +kernel
theorem dX6_init_74 : decode cX6_init 74 = .ok (.putfield 36, 3) := by decide +kernel
theorem dX6_init_77 : decode cX6_init 77 = .ok (.aload_n 0, 1) := by decide +kernel
theorem dX6_init_78 : decode cX6_init 78 = .ok (.sipush 150, 3) := by decide +kernel
theorem dX6_init_81 : decode cX6_init 81 = .ok (.newarray .int, 2) := by decide +kernel
theorem dX6_init_83 : decode cX6_init 83 = .ok (.putfield 39, 3) := by decide +kernel
theorem dX6_init_86 : decode cX6_init 86 = .ok (.aload_n 0, 1) := by decide +kernel
theorem dX6_init_87 : decode cX6_init 87 = .ok (.sipush 150, 3) := by decide +kernel
theorem dX6_init_90 : decode cX6_init 90 = .ok (.newarray .int, 2) := by decide +kernel
theorem dX6_init_92 : decode cX6_init 92 = .ok (.putfield 42, 3) := by decide +kernel
theorem dX6_init_95 : decode cX6_init 95 = .ok (.aload_n 0, 1) := by decide +kernel
theorem dX6_init_96 : decode cX6_init 96 = .ok (.sipush 150, 3) := by decide +kernel
theorem dX6_init_99 : decode cX6_init 99 = .ok (.newarray .int, 2) := by decide +kernel
theorem dX6_init_101 : decode cX6_init 101 = .ok (.putfield 45, 3) := by decide +kernel
theorem dX6_init_104 : decode cX6_init 104 = .ok (.aload_n 0, 1) := by decide +kernel
theorem dX6_init_105 : decode cX6_init 105 = .ok (.sipush 150, 3) := by decide +kernel
theorem dX6_init_108 : decode cX6_init 108 = .ok (.newarray .long, 2) := by decide +kernel
theorem dX6_init_110 : decode cX6_init 110 = .ok (.putfield 48, 3) := by decide +kernel
theorem dX6_init_113 : decode cX6_init 113 = .ok (.aload_n 0, 1) := by decide +kernel
theorem dX6_init_114 : decode cX6_init 114 = .ok (.iload_n 1, 1) := by decide +kernel
theorem dX6_init_115 : decode cX6_init 115 = .ok (.iconst 1, 1) := by decide +kernel
theorem dX6_init_116 : decode cX6_init 116 = .ok (.if_icmp .lt 14, 3) := by decide +kernel
theorem dX6_init_119 : decode cX6_init 119 = .ok (.iload_n 1, 1) := by decide +kernel
theorem dX6_init_120 : decode cX6_init 120 = .ok (.sipush 400, 3) := by decide +kernel
theorem dX6_init_123 : decode cX6_init 123 = .ok (.if_icmp .gt 7, 3) := by decide +kernel
theorem dX6_init_126 : decode cX6_init 126 = .ok (.iload_n 1, 1) := by decide +kernel
theorem dX6_init_127 : decode cX6_init 127 = .ok (.goto 5, 3) := by decide +kernel
theorem dX6_init_130 : decode cX6_init 130 = .ok (.bipush 64, 2) := by decide +kernel
theorem dX6_init_132 : decode cX6_init 132 = .ok (.putfield 51, 3) := by decide +kernel
theorem dX6_init_135 : decode cX6_init 135 = .ok (.aload_n 0, 1) := by decide +kernel
theorem dX6_init_136 : decode cX6_init 136 = .ok (.iload_n 2, 1) := by decide +kernel
theorem dX6_init_137 : decode cX6_init 137 = .ok (.iconst 1, 1) := by decide +kernel
theorem dX6_init_138 : decode cX6_init 138 = .ok (.if_icmp .lt 13, 3) := by decide +kernel
theorem dX6_init_141 : decode cX6_init 141 = .ok (.iload_n 2, 1) := by decide +kernel
theorem dX6_init_142 : decode cX6_init 142 = .ok (.bipush 8, 2) := by decide +kernel
theorem dX6_init_144 : decode cX6_init 144 = .ok (.if_icmp .gt 7, 3) := by decide +kernel
theorem dX6_init_147 : decode cX6_init 147 = .ok (.iload_n 2, 1) := by decide +kernel
theorem dX6_init_148 : decode cX6_init 148 = .ok (.goto 4, 3) := by decide +kernel
theorem dX6_init_151 : decode cX6_init 151 = .ok (.iconst 4, 1) := by decide +kernel
theorem dX6_init_152 : decode cX6_init 152 = .ok (.putfield 54, 3) := by decide +kernel
theorem dX6_init_155 : decode cX6_init 155 = .ok (.aload_n 0, 1) := by decide +kernel
theorem dX6_init_156 : decode cX6_init 156 = .ok (.iload_n 3, 1) := by decide +kernel
theorem dX6_init_157 : decode cX6_init 157 = .ok (.iconst 1, 1) := by decide +kernel
theorem dX6_init_158 : decode cX6_init 158 = .ok (.if_icmp .lt 13, 3) := by decide +kernel
theorem dX6_init_161 : decode cX6_init 161 = .ok (.iload_n 3, 1) := by decide +kernel
theorem dX6_init_162 : decode cX6_init 162 = .ok (.bipush 15, 2) := by decide +kernel
theorem dX6_init_164 : decode cX6_init 164 = .ok (.if_icmp .gt 7, 3) := by decide +kernel
theorem dX6_init_167 : decode cX6_init 167 = .ok (.iload_n 3, 1) := by decide +kernel
theorem dX6_init_168 : decode cX6_init 168 = .ok (.goto 5, 3) := by decide +kernel
theorem dX6_init_171 : decode cX6_init 171 = .ok (.bipush 8, 2) := by decide +kernel
theorem dX6_init_173 : decode cX6_init 173 = .ok (.putfield 57, 3) := by decide +kernel
theorem dX6_init_176 : decode cX6_init 176 = .ok (.aload_n 0, 1) := by decide +kernel
theorem dX6_init_177 : decode cX6_init 177 = .ok (.iconst 1, 1) := by decide +kernel
theorem dX6_init_178 : decode cX6_init 178 = .ok (.aload_n 0, 1) := by decide +kernel
theorem dX6_init_179 : decode cX6_init 179 = .ok (.getfield 57, 3) := by decide +kernel
theorem dX6_init_182 : decode cX6_init 182 = .ok (.ishl, 1) := by decide +kernel
theorem dX6_init_183 : decode cX6_init 183 = .ok (.putfield 60, 3) := by decide +kernel
theorem dX6_init_186 : decode cX6_init 186 = .ok (.return_, 1) := by decide +kernel
theorem dX6_isInside_0 : decode cX6_isInside 0 = .ok (.iload_n 1, 1) := by decide +kernel
theorem dX6_isInside_1 : decode cX6_isInside 1 = .ok (.ifCond .lt 27, 3) := by decide +kernel
theorem dX6_isInside_4 : decode cX6_isInside 4 = .ok (.iload_n 1, 1) := by decide +kernel
theorem dX6_isInside_5 : decode cX6_isInside 5 = .ok (.aload_n 0, 1) := by decide +kernel
theorem dX6_isInside_6 : decode cX6_isInside 6 = .ok (.getfield 60, 3) := by decide +kernel
theorem dX6_isInside_9 : decode cX6_isInside 9 = .ok (.if_icmp .ge 19, 3) := by decide +kernel
theorem dX6_isInside_12 : decode cX6_isInside 12 = .ok (.iload_n 2, 1) := by decide +kernel
theorem dX6_isInside_13 : decode cX6_isInside 13 = .ok (.ifCond .lt 15, 3) := by decide +kernel
theorem dX6_isInside_16 : decode cX6_isInside 16 = .ok (.iload_n 2, 1) := by decide +kernel
theorem dX6_isInside_17 : decode cX6_isInside 17 = .ok (.aload_n 0, 1) := by decide +kernel
theorem dX6_isInside_18 : decode cX6_isInside 18 = .ok (.getfield 60, 3) := by decide +kernel
theorem dX6_isInside_21 : decode cX6_isInside 21 = .ok (.if_icmp .ge 7, 3) := by decide +kernel
theorem dX6_isInside_24 : decode cX6_isInside 24 = .ok (.iconst 1, 1) := by decide +kernel
theorem dX6_isInside_25 : decode cX6_isInside 25 = .ok (.goto 4, 3) := by decide +kernel
theorem dX6_isInside_28 : decode cX6_isInside 28 = .ok (.iconst 0, 1) := by decide +kernel
theorem dX6_isInside_29 : decode cX6_isInside 29 = .ok (.ireturn, 1) := by decide +kernel
theorem dX6_isState_0 : decode cX6_isState 0 = .ok (.iload_n 0, 1) := by decide +kernel
theorem dX6_isState_1 : decode cX6_isState 1 = .ok (.ifCond .eq 8, 3) := by decide +kernel
theorem dX6_isState_4 : decode cX6_isState 4 = .ok (.iload_n 0, 1) := by decide +kernel
theorem dX6_isState_5 : decode cX6_isState 5 = .ok (.iconst 1, 1) := by decide +kernel
theorem dX6_isState_6 : decode cX6_isState 6 = .ok (.if_icmp .ne 7, 3) := by decide +kernel
theorem dX6_isState_9 : decode cX6_isState 9 = .ok (.iconst 1, 1) := by decide +kernel
theorem dX6_isState_10 : decode cX6_isState 10 = .ok (.goto 4, 3) := by decide +kernel
theorem dX6_isState_13 : decode cX6_isState 13 = .ok (.iconst 0, 1) := by decide +kernel
theorem dX6_isState_14 : decode cX6_isState 14 = .ok (.ireturn, 1) := by decide +kernel
theorem dX6_placeOf_0 : decode cX6_placeOf 0 = .ok (.iconst 0, 1) := by decide +kernel
theorem dX6_placeOf_1 : decode cX6_placeOf 1 = .ok (.istore 4, 2) := by decide +kernel
theorem dX6_placeOf_3 : decode cX6_placeOf 3 = .ok (.aload_n 0, 1) := by decide +kernel
theorem dX6_placeOf_4 : decode cX6_placeOf 4 = .ok (.getfield 7, 3) := by decide +kernel
theorem dX6_placeOf_7 : decode cX6_placeOf 7 = .ok (.iload_n 1, 1) := by decide +kernel
theorem dX6_placeOf_8 : decode cX6_placeOf 8 = .ok (.iaload, 1) := by decide +kernel
theorem dX6_placeOf_9 : decode cX6_placeOf 9 = .ok (.istore 5, 2) := by decide +kernel
theorem dX6_placeOf_11 : decode cX6_placeOf 11 = .ok (.iload 4, 2) := by decide +kernel
theorem dX6_placeOf_13 : decode cX6_placeOf 13 = .ok (.iload 5, 2) := by decide +kernel
theorem dX6_placeOf_15 : decode cX6_placeOf 15 = .ok (.if_icmp .ge 71, 3) := by decide +kernel
theorem dX6_placeOf_18 : decode cX6_placeOf 18 = .ok (.iload 4, 2) := by decide +kernel
theorem dX6_placeOf_20 : decode cX6_placeOf 20 = .ok (.iload 5, 2) := by decide +kernel
theorem dX6_placeOf_22 : decode cX6_placeOf 22 = .ok (.iadd, 1) := by decide +kernel
theorem dX6_placeOf_23 : decode cX6_placeOf 23 = .ok (.iconst 1, 1) := by decide +kernel
theorem dX6_placeOf_24 : decode cX6_placeOf 24 = .ok (.ishr, 1) := by decide +kernel
theorem dX6_placeOf_25 : decode cX6_placeOf 25 = .ok (.istore 6, 2) := by decide +kernel
theorem dX6_placeOf_27 : decode cX6_placeOf 27 = .ok (.sipush 3300, 3) := by decide +kernel
theorem dX6_placeOf_30 : decode cX6_placeOf 30 = .ok (.iload_n 1, 1) := by decide +kernel
theorem dX6_placeOf_31 : decode cX6_placeOf 31 = .ok (.imul, 1) := by decide +kernel
theorem dX6_placeOf_32 : decode cX6_placeOf 32 = .ok (.iload 6, 2) := by decide +kernel
theorem dX6_placeOf_34 : decode cX6_placeOf 34 = .ok (.iadd, 1) := by decide +kernel
theorem dX6_placeOf_35 : decode cX6_placeOf 35 = .ok (.istore 7, 2) := by decide +kernel
theorem dX6_placeOf_37 : decode cX6_placeOf 37 = .ok (.aload_n 0, 1) := by decide +kernel
theorem dX6_placeOf_38 : decode cX6_placeOf 38 = .ok (.getfield 13, 3) := by decide +kernel
theorem dX6_placeOf_41 : decode cX6_placeOf 41 = .ok (.iload 7, 2) := by decide +kernel
theorem dX6_placeOf_43 : decode cX6_placeOf 43 = .ok (.iaload, 1) := by decide +kernel
theorem dX6_placeOf_44 : decode cX6_placeOf 44 = .ok (.iload_n 2, 1) := by decide +kernel
theorem dX6_placeOf_45 : decode cX6_placeOf 45 = .ok (.if_icmp .lt 25, 3) := by decide +kernel
theorem dX6_placeOf_48 : decode cX6_placeOf 48 = .ok (.aload_n 0, 1) := by decide +kernel
theorem dX6_placeOf_49 : decode cX6_placeOf 49 = .ok (.getfield 13, 3) := by decide +kernel
theorem dX6_placeOf_52 : decode cX6_placeOf 52 = .ok (.iload 7, 2) := by decide +kernel
theorem dX6_placeOf_54 : decode cX6_placeOf 54 = .ok (.iaload, 1) := by decide +kernel
theorem dX6_placeOf_55 : decode cX6_placeOf 55 = .ok (.iload_n 2, 1) := by decide +kernel
theorem dX6_placeOf_56 : decode cX6_placeOf 56 = .ok (.if_icmp .ne 23, 3) := by decide +kernel
theorem dX6_placeOf_59 : decode cX6_placeOf 59 = .ok (.aload_n 0, 1) := by decide +kernel
theorem dX6_placeOf_60 : decode cX6_placeOf 60 = .ok (.getfield 16, 3) := by decide +kernel
theorem dX6_placeOf_63 : decode cX6_placeOf 63 = .ok (.iload 7, 2) := by decide +kernel
theorem dX6_placeOf_65 : decode cX6_placeOf 65 = .ok (.iaload, 1) := by decide +kernel
theorem dX6_placeOf_66 : decode cX6_placeOf 66 = .ok (.iload_n 3, 1) := by decide +kernel
theorem dX6_placeOf_67 : decode cX6_placeOf 67 = .ok (.if_icmp .ge 12, 3) := by decide +kernel
theorem dX6_placeOf_70 : decode cX6_placeOf 70 = .ok (.iload 6, 2) := by decide +kernel
theorem dX6_placeOf_72 : decode cX6_placeOf 72 = .ok (.iconst 1, 1) := by decide +kernel
theorem dX6_placeOf_73 : decode cX6_placeOf 73 = .ok (.iadd, 1) := by decide +kernel
theorem dX6_placeOf_74 : decode cX6_placeOf 74 = .ok (.istore 4, 2) := by decide +kernel
theorem dX6_placeOf_76 : decode cX6_placeOf 76 = .ok (.goto 7, 3) := by decide +kernel
theorem dX6_placeOf_79 : decode cX6_placeOf 79 = .ok (.iload 6, 2) := by decide +kernel
theorem dX6_placeOf_81 : decode cX6_placeOf 81 = .ok (.istore 5, 2) := by decide +kernel
theorem dX6_placeOf_83 : decode cX6_placeOf 83 = .ok (.goto (-72), 3) := by decide +kernel
theorem dX6_placeOf_86 : decode cX6_placeOf 86 = .ok (.iload 4, 2) := by decide +kernel
theorem dX6_placeOf_88 : decode cX6_placeOf 88 = .ok (.ireturn, 1) := by decide +kernel
theorem dX6_isAt_0 : decode cX6_isAt 0 = .ok (.iload_n 2, 1) := by decide +kernel
theorem dX6_isAt_1 : decode cX6_isAt 1 = .ok (.aload_n 0, 1) := by decide +kernel
theorem dX6_isAt_2 : decode cX6_isAt 2 = .ok (.getfield 7, 3) := by decide +kernel
theorem dX6_isAt_5 : decode cX6_isAt 5 = .ok (.iload_n 1, 1) := by decide +kernel
theorem dX6_isAt_6 : decode cX6_isAt 6 = .ok (.iaload, 1) := by decide +kernel
theorem dX6_isAt_7 : decode cX6_isAt 7 = .ok (.if_icmp .ge 40, 3) := by decide +kernel
theorem dX6_isAt_10 : decode cX6_isAt 10 = .ok (.aload_n 0, 1) := by decide +kernel
theorem dX6_isAt_11 : decode cX6_isAt 11 = .ok (.getfield 13, 3) := by decide +kernel
theorem dX6_isAt_14 : decode cX6_isAt 14 = .ok (.sipush 3300, 3) := by decide +kernel
theorem dX6_isAt_17 : decode cX6_isAt 17 = .ok (.iload_n 1, 1) := by decide +kernel
theorem dX6_isAt_18 : decode cX6_isAt 18 = .ok (.imul, 1) := by decide +kernel
theorem dX6_isAt_19 : decode cX6_isAt 19 = .ok (.iload_n 2, 1) := by decide +kernel
theorem dX6_isAt_20 : decode cX6_isAt 20 = .ok (.iadd, 1) := by decide +kernel
theorem dX6_isAt_21 : decode cX6_isAt 21 = .ok (.iaload, 1) := by decide +kernel
theorem dX6_isAt_22 : decode cX6_isAt 22 = .ok (.iload_n 3, 1) := by decide +kernel
theorem dX6_isAt_23 : decode cX6_isAt 23 = .ok (.if_icmp .ne 24, 3) := by decide +kernel
theorem dX6_isAt_26 : decode cX6_isAt 26 = .ok (.aload_n 0, 1) := by decide +kernel
theorem dX6_isAt_27 : decode cX6_isAt 27 = .ok (.getfield 16, 3) := by decide +kernel
theorem dX6_isAt_30 : decode cX6_isAt 30 = .ok (.sipush 3300, 3) := by decide +kernel
theorem dX6_isAt_33 : decode cX6_isAt 33 = .ok (.iload_n 1, 1) := by decide +kernel
theorem dX6_isAt_34 : decode cX6_isAt 34 = .ok (.imul, 1) := by decide +kernel
theorem dX6_isAt_35 : decode cX6_isAt 35 = .ok (.iload_n 2, 1) := by decide +kernel
theorem dX6_isAt_36 : decode cX6_isAt 36 = .ok (.iadd, 1) := by decide +kernel
theorem dX6_isAt_37 : decode cX6_isAt 37 = .ok (.iaload, 1) := by decide +kernel
theorem dX6_isAt_38 : decode cX6_isAt 38 = .ok (.iload 4, 2) := by decide +kernel
theorem dX6_isAt_40 : decode cX6_isAt 40 = .ok (.if_icmp .ne 7, 3) := by decide +kernel
theorem dX6_isAt_43 : decode cX6_isAt 43 = .ok (.iconst 1, 1) := by decide +kernel
theorem dX6_isAt_44 : decode cX6_isAt 44 = .ok (.goto 4, 3) := by decide +kernel
theorem dX6_isAt_47 : decode cX6_isAt 47 = .ok (.iconst 0, 1) := by decide +kernel
theorem dX6_isAt_48 : decode cX6_isAt 48 = .ok (.ireturn, 1) := by decide +kernel
theorem dX6_codeOf_0 : decode cX6_codeOf 0 = .ok (.lconst 0, 1) := by decide +kernel
theorem dX6_codeOf_1 : decode cX6_codeOf 1 = .ok (.lstore_n 3, 1) := by decide +kernel
theorem dX6_codeOf_2 : decode cX6_codeOf 2 = .ok (.aload_n 0, 1) := by decide +kernel
theorem dX6_codeOf_3 : decode cX6_codeOf 3 = .ok (.getfield 57, 3) := by decide +kernel
theorem dX6_codeOf_6 : decode cX6_codeOf 6 = .ok (.iconst 1, 1) := by decide +kernel
theorem dX6_codeOf_7 : decode cX6_codeOf 7 = .ok (.isub, 1) := by decide +kernel
theorem dX6_codeOf_8 : decode cX6_codeOf 8 = .ok (.istore 5, 2) := by decide +kernel
theorem dX6_codeOf_10 : decode cX6_codeOf 10 = .ok (.iload 5, 2) := by decide +kernel
theorem dX6_codeOf_12 : decode cX6_codeOf 12 = .ok (.ifCond .lt 31, 3) := by decide +kernel
theorem dX6_codeOf_15 : decode cX6_codeOf 15 = .ok (.lload_n 3, 1) := by decide +kernel
theorem dX6_codeOf_16 : decode cX6_codeOf 16 = .ok (.iconst 2, 1) := by decide +kernel
theorem dX6_codeOf_17 : decode cX6_codeOf 17 = .ok (.lshl, 1) := by decide +kernel
theorem dX6_codeOf_18 : decode cX6_codeOf 18 = .ok (.iload_n 2, 1) := by decide +kernel
theorem dX6_codeOf_19 : decode cX6_codeOf 19 = .ok (.iload 5, 2) := by decide +kernel
theorem dX6_codeOf_21 : decode cX6_codeOf 21 = .ok (.ishr, 1) := by decide +kernel
theorem dX6_codeOf_22 : decode cX6_codeOf 22 = .ok (.iconst 1, 1) := by decide +kernel
theorem dX6_codeOf_23 : decode cX6_codeOf 23 = .ok (.iand, 1) := by decide +kernel
theorem dX6_codeOf_24 : decode cX6_codeOf 24 = .ok (.iconst 1, 1) := by decide +kernel
theorem dX6_codeOf_25 : decode cX6_codeOf 25 = .ok (.ishl, 1) := by decide +kernel
theorem dX6_codeOf_26 : decode cX6_codeOf 26 = .ok (.i2l, 1) := by decide +kernel
theorem dX6_codeOf_27 : decode cX6_codeOf 27 = .ok (.lor, 1) := by decide +kernel
theorem dX6_codeOf_28 : decode cX6_codeOf 28 = .ok (.iload_n 1, 1) := by decide +kernel
theorem dX6_codeOf_29 : decode cX6_codeOf 29 = .ok (.iload 5, 2) := by decide +kernel
theorem dX6_codeOf_31 : decode cX6_codeOf 31 = .ok (.ishr, 1) := by decide +kernel
theorem dX6_codeOf_32 : decode cX6_codeOf 32 = .ok (.iconst 1, 1) := by decide +kernel
theorem dX6_codeOf_33 : decode cX6_codeOf 33 = .ok (.iand, 1) := by decide +kernel
theorem dX6_codeOf_34 : decode cX6_codeOf 34 = .ok (.i2l, 1) := by decide +kernel
theorem dX6_codeOf_35 : decode cX6_codeOf 35 = .ok (.lor, 1) := by decide +kernel
theorem dX6_codeOf_36 : decode cX6_codeOf 36 = .ok (.lstore_n 3, 1) := by decide +kernel
theorem dX6_codeOf_37 : decode cX6_codeOf 37 = .ok (.iinc 5 (-1), 3) := by decide +kernel
theorem dX6_codeOf_40 : decode cX6_codeOf 40 = .ok (.goto (-30), 3) := by decide +kernel
theorem dX6_codeOf_43 : decode cX6_codeOf 43 = .ok (.lload_n 3, 1) := by decide +kernel
theorem dX6_codeOf_44 : decode cX6_codeOf 44 = .ok (.lreturn, 1) := by decide +kernel
theorem dX6_below_0 : decode cX6_below 0 = .ok (.iconst 0, 1) := by decide +kernel
theorem dX6_below_1 : decode cX6_below 1 = .ok (.istore 4, 2) := by decide +kernel
theorem dX6_below_3 : decode cX6_below 3 = .ok (.aload_n 0, 1) := by decide +kernel
theorem dX6_below_4 : decode cX6_below 4 = .ok (.getfield 7, 3) := by decide +kernel
theorem dX6_below_7 : decode cX6_below 7 = .ok (.iload_n 1, 1) := by decide +kernel
theorem dX6_below_8 : decode cX6_below 8 = .ok (.iaload, 1) := by decide +kernel
theorem dX6_below_9 : decode cX6_below 9 = .ok (.istore 5, 2) := by decide +kernel
theorem dX6_below_11 : decode cX6_below 11 = .ok (.iload 4, 2) := by decide +kernel
theorem dX6_below_13 : decode cX6_below 13 = .ok (.iload 5, 2) := by decide +kernel
theorem dX6_below_15 : decode cX6_below 15 = .ok (.if_icmp .ge 46, 3) := by decide +kernel
theorem dX6_below_18 : decode cX6_below 18 = .ok (.iload 4, 2) := by decide +kernel
theorem dX6_below_20 : decode cX6_below 20 = .ok (.iload 5, 2) := by decide +kernel
theorem dX6_below_22 : decode cX6_below 22 = .ok (.iadd, 1) := by decide +kernel
theorem dX6_below_23 : decode cX6_below 23 = .ok (.iconst 1, 1) := by decide +kernel
theorem dX6_below_24 : decode cX6_below 24 = .ok (.ishr, 1) := by decide +kernel
theorem dX6_below_25 : decode cX6_below 25 = .ok (.istore 6, 2) := by decide +kernel
theorem dX6_below_27 : decode cX6_below 27 = .ok (.aload_n 0, 1) := by decide +kernel
theorem dX6_below_28 : decode cX6_below 28 = .ok (.getfield 22, 3) := by decide +kernel
theorem dX6_below_31 : decode cX6_below 31 = .ok (.sipush 3300, 3) := by decide +kernel
theorem dX6_below_34 : decode cX6_below 34 = .ok (.iload_n 1, 1) := by decide +kernel
theorem dX6_below_35 : decode cX6_below 35 = .ok (.imul, 1) := by decide +kernel
theorem dX6_below_36 : decode cX6_below 36 = .ok (.iload 6, 2) := by decide +kernel
theorem dX6_below_38 : decode cX6_below 38 = .ok (.iadd, 1) := by decide +kernel
theorem dX6_below_39 : decode cX6_below 39 = .ok (.laload, 1) := by decide +kernel
theorem dX6_below_40 : decode cX6_below 40 = .ok (.lload_n 2, 1) := by decide +kernel
theorem dX6_below_41 : decode cX6_below 41 = .ok (.lcmp, 1) := by decide +kernel
theorem dX6_below_42 : decode cX6_below 42 = .ok (.ifCond .ge 12, 3) := by decide +kernel
theorem dX6_below_45 : decode cX6_below 45 = .ok (.iload 6, 2) := by decide +kernel
theorem dX6_below_47 : decode cX6_below 47 = .ok (.iconst 1, 1) := by decide +kernel
theorem dX6_below_48 : decode cX6_below 48 = .ok (.iadd, 1) := by decide +kernel
theorem dX6_below_49 : decode cX6_below 49 = .ok (.istore 4, 2) := by decide +kernel
theorem dX6_below_51 : decode cX6_below 51 = .ok (.goto 7, 3) := by decide +kernel
theorem dX6_below_54 : decode cX6_below 54 = .ok (.iload 6, 2) := by decide +kernel
theorem dX6_below_56 : decode cX6_below 56 = .ok (.istore 5, 2) := by decide +kernel
theorem dX6_below_58 : decode cX6_below 58 = .ok (.goto (-47), 3) := by decide +kernel
theorem dX6_below_61 : decode cX6_below 61 = .ok (.iload 4, 2) := by decide +kernel
theorem dX6_below_63 : decode cX6_below 63 = .ok (.ireturn, 1) := by decide +kernel
set_option maxRecDepth 20000 in
theorem ggX6_puts_X6_codeOf : GoodIn wsX6_puts wsX6_codeOf := goodIn_r _ [11, 12, 17, 18, 19, 20, 21, 22, 23, 24, 25, 26, 27, 28, 29, 30, 31, 32, 33, 34, 35, 36, 37, 38, 39, 40, 41] (by decide +kernel) (by decide +kernel)
set_option maxRecDepth 20000 in
theorem gX6_puts_X6_codeOf : GoodIn wsX6_puts (wsV RX6 63 RX6 yX6_codeOf wsX6_codeOf) := goodIn_app (goodIn_of _ (by decide +kernel)) ggX6_puts_X6_codeOf
set_option maxRecDepth 20000 in
theorem ggX6_puts_X6_below : GoodIn wsX6_puts wsX6_below := goodIn_r _ [16, 1, 5, 17, 18, 19, 20, 21, 22, 23, 24, 25, 26, 27, 28, 29, 30, 31, 32, 33, 34, 35, 36, 37, 38, 39, 40, 41] (by decide +kernel) (by decide +kernel)
set_option maxRecDepth 20000 in
theorem gX6_puts_X6_below : GoodIn wsX6_puts (wsV RX6 67 RX6 yX6_below wsX6_below) := goodIn_app (goodIn_of _ (by decide +kernel)) ggX6_puts_X6_below
theorem dX6_puts_0 : decode cX6_puts 0 = .ok (.aload_n 0, 1) := by decide +kernel
theorem dX6_puts_1 : decode cX6_puts 1 = .ok (.iload_n 2, 1) := by decide +kernel
theorem dX6_puts_2 : decode cX6_puts 2 = .ok (.iload_n 3, 1) := by decide +kernel
theorem dX6_puts_3 : decode cX6_puts 3 = .ok (.invokevirtual 63, 3) := by decide +kernel
theorem dX6_puts_6 : decode cX6_puts 6 = .ok (.lstore 5, 2) := by decide +kernel
theorem dX6_puts_8 : decode cX6_puts 8 = .ok (.aload_n 0, 1) := by decide +kernel
theorem dX6_puts_9 : decode cX6_puts 9 = .ok (.iconst 0, 1) := by decide +kernel
theorem dX6_puts_10 : decode cX6_puts 10 = .ok (.lload 5, 2) := by decide +kernel
theorem dX6_puts_12 : decode cX6_puts 12 = .ok (.invokevirtual 67, 3) := by decide +kernel
theorem dX6_puts_15 : decode cX6_puts 15 = .ok (.istore 7, 2) := by decide +kernel
theorem dX6_puts_17 : decode cX6_puts 17 = .ok (.aload_n 0, 1) := by decide +kernel
theorem dX6_puts_18 : decode cX6_puts 18 = .ok (.getfield 7, 3) := by decide +kernel
theorem dX6_puts_21 : decode cX6_puts 21 = .ok (.iconst 0, 1) := by decide +kernel
theorem dX6_puts_22 : decode cX6_puts 22 = .ok (.iaload, 1) := by decide +kernel
theorem dX6_puts_23 : decode cX6_puts 23 = .ok (.istore 8, 2) := by decide +kernel
theorem dX6_puts_25 : decode cX6_puts 25 = .ok (.iload 8, 2) := by decide +kernel
theorem dX6_puts_27 : decode cX6_puts 27 = .ok (.iload_n 1, 1) := by decide +kernel
theorem dX6_puts_28 : decode cX6_puts 28 = .ok (.if_icmp .le 57, 3) := by decide +kernel
theorem dX6_puts_31 : decode cX6_puts 31 = .ok (.aload_n 0, 1) := by decide +kernel
theorem dX6_puts_32 : decode cX6_puts 32 = .ok (.getfield 13, 3) := by decide +kernel
theorem dX6_puts_35 : decode cX6_puts 35 = .ok (.iload 8, 2) := by decide +kernel
theorem dX6_puts_37 : decode cX6_puts 37 = .ok (.aload_n 0, 1) := by decide +kernel
theorem dX6_puts_38 : decode cX6_puts 38 = .ok (.getfield 13, 3) := by decide +kernel
theorem dX6_puts_41 : decode cX6_puts 41 = .ok (.iload 8, 2) := by decide +kernel
theorem dX6_puts_43 : decode cX6_puts 43 = .ok (.iconst 1, 1) := by decide +kernel
theorem dX6_puts_44 : decode cX6_puts 44 = .ok (.isub, 1) := by decide +kernel
theorem dX6_puts_45 : decode cX6_puts 45 = .ok (.iaload, 1) := by decide +kernel
theorem dX6_puts_46 : decode cX6_puts 46 = .ok (.iastore, 1) := by decide +kernel
theorem dX6_puts_47 : decode cX6_puts 47 = .ok (.aload_n 0, 1) := by decide +kernel
theorem dX6_puts_48 : decode cX6_puts 48 = .ok (.getfield 16, 3) := by decide +kernel
theorem dX6_puts_51 : decode cX6_puts 51 = .ok (.iload 8, 2) := by decide +kernel
theorem dX6_puts_53 : decode cX6_puts 53 = .ok (.aload_n 0, 1) := by decide +kernel
theorem dX6_puts_54 : decode cX6_puts 54 = .ok (.getfield 16, 3) := by decide +kernel
theorem dX6_puts_57 : decode cX6_puts 57 = .ok (.iload 8, 2) := by decide +kernel
theorem dX6_puts_59 : decode cX6_puts 59 = .ok (.iconst 1, 1) := by decide +kernel
theorem dX6_puts_60 : decode cX6_puts 60 = .ok (.isub, 1) := by decide +kernel
theorem dX6_puts_61 : decode cX6_puts 61 = .ok (.iaload, 1) := by decide +kernel
theorem dX6_puts_62 : decode cX6_puts 62 = .ok (.iastore, 1) := by decide +kernel
theorem dX6_puts_63 : decode cX6_puts 63 = .ok (.aload_n 0, 1) := by decide +kernel
theorem dX6_puts_64 : decode cX6_puts 64 = .ok (.getfield 19, 3) := by decide +kernel
theorem dX6_puts_67 : decode cX6_puts 67 = .ok (.iload 8, 2) := by decide +kernel
theorem dX6_puts_69 : decode cX6_puts 69 = .ok (.aload_n 0, 1) := by decide +kernel
theorem dX6_puts_70 : decode cX6_puts 70 = .ok (.getfield 19, 3) := by decide +kernel
theorem dX6_puts_73 : decode cX6_puts 73 = .ok (.iload 8, 2) := by decide +kernel
theorem dX6_puts_75 : decode cX6_puts 75 = .ok (.iconst 1, 1) := by decide +kernel
theorem dX6_puts_76 : decode cX6_puts 76 = .ok (.isub, 1) := by decide +kernel
theorem dX6_puts_77 : decode cX6_puts 77 = .ok (.iaload, 1) := by decide +kernel
theorem dX6_puts_78 : decode cX6_puts 78 = .ok (.iastore, 1) := by decide +kernel
theorem dX6_puts_79 : decode cX6_puts 79 = .ok (.iinc 8 (-1), 3) := by decide +kernel
theorem dX6_puts_82 : decode cX6_puts 82 = .ok (.goto (-57), 3) := by decide +kernel
theorem dX6_puts_85 : decode cX6_puts 85 = .ok (.aload_n 0, 1) := by decide +kernel
theorem dX6_puts_86 : decode cX6_puts 86 = .ok (.getfield 13, 3) := by decide +kernel
theorem dX6_puts_89 : decode cX6_puts 89 = .ok (.iload_n 1, 1) := by decide +kernel
theorem dX6_puts_90 : decode cX6_puts 90 = .ok (.iload_n 2, 1) := by decide +kernel
theorem dX6_puts_91 : decode cX6_puts 91 = .ok (.iastore, 1) := by decide +kernel
theorem dX6_puts_92 : decode cX6_puts 92 = .ok (.aload_n 0, 1) := by decide +kernel
theorem dX6_puts_93 : decode cX6_puts 93 = .ok (.getfield 16, 3) := by decide +kernel
theorem dX6_puts_96 : decode cX6_puts 96 = .ok (.iload_n 1, 1) := by decide +kernel
theorem dX6_puts_97 : decode cX6_puts 97 = .ok (.iload_n 3, 1) := by decide +kernel
theorem dX6_puts_98 : decode cX6_puts 98 = .ok (.iastore, 1) := by decide +kernel
theorem dX6_puts_99 : decode cX6_puts 99 = .ok (.aload_n 0, 1) := by decide +kernel
theorem dX6_puts_100 : decode cX6_puts 100 = .ok (.getfield 19, 3) := by decide +kernel
theorem dX6_puts_103 : decode cX6_puts 103 = .ok (.iload_n 1, 1) := by decide +kernel
theorem dX6_puts_104 : decode cX6_puts 104 = .ok (.iload 4, 2) := by decide +kernel
theorem dX6_puts_106 : decode cX6_puts 106 = .ok (.iastore, 1) := by decide +kernel
theorem dX6_puts_107 : decode cX6_puts 107 = .ok (.aload_n 0, 1) := by decide +kernel
theorem dX6_puts_108 : decode cX6_puts 108 = .ok (.getfield 7, 3) := by decide +kernel
theorem dX6_puts_111 : decode cX6_puts 111 = .ok (.iconst 0, 1) := by decide +kernel
theorem dX6_puts_112 : decode cX6_puts 112 = .ok (.iaload, 1) := by decide +kernel
theorem dX6_puts_113 : decode cX6_puts 113 = .ok (.istore 8, 2) := by decide +kernel
theorem dX6_puts_115 : decode cX6_puts 115 = .ok (.iload 8, 2) := by decide +kernel
theorem dX6_puts_117 : decode cX6_puts 117 = .ok (.iload 7, 2) := by decide +kernel
theorem dX6_puts_119 : decode cX6_puts 119 = .ok (.if_icmp .le 41, 3) := by decide +kernel
theorem dX6_puts_122 : decode cX6_puts 122 = .ok (.aload_n 0, 1) := by decide +kernel
theorem dX6_puts_123 : decode cX6_puts 123 = .ok (.getfield 22, 3) := by decide +kernel
theorem dX6_puts_126 : decode cX6_puts 126 = .ok (.iload 8, 2) := by decide +kernel
theorem dX6_puts_128 : decode cX6_puts 128 = .ok (.aload_n 0, 1) := by decide +kernel
theorem dX6_puts_129 : decode cX6_puts 129 = .ok (.getfield 22, 3) := by decide +kernel
theorem dX6_puts_132 : decode cX6_puts 132 = .ok (.iload 8, 2) := by decide +kernel
theorem dX6_puts_134 : decode cX6_puts 134 = .ok (.iconst 1, 1) := by decide +kernel
theorem dX6_puts_135 : decode cX6_puts 135 = .ok (.isub, 1) := by decide +kernel
theorem dX6_puts_136 : decode cX6_puts 136 = .ok (.laload, 1) := by decide +kernel
theorem dX6_puts_137 : decode cX6_puts 137 = .ok (.lastore, 1) := by decide +kernel
theorem dX6_puts_138 : decode cX6_puts 138 = .ok (.aload_n 0, 1) := by decide +kernel
theorem dX6_puts_139 : decode cX6_puts 139 = .ok (.getfield 26, 3) := by decide +kernel
theorem dX6_puts_142 : decode cX6_puts 142 = .ok (.iload 8, 2) := by decide +kernel
theorem dX6_puts_144 : decode cX6_puts 144 = .ok (.aload_n 0, 1) := by decide +kernel
theorem dX6_puts_145 : decode cX6_puts 145 = .ok (.getfield 26, 3) := by decide +kernel
theorem dX6_puts_148 : decode cX6_puts 148 = .ok (.iload 8, 2) := by decide +kernel
theorem dX6_puts_150 : decode cX6_puts 150 = .ok (.iconst 1, 1) := by decide +kernel
theorem dX6_puts_151 : decode cX6_puts 151 = .ok (.isub, 1) := by decide +kernel
theorem dX6_puts_152 : decode cX6_puts 152 = .ok (.iaload, 1) := by decide +kernel
theorem dX6_puts_153 : decode cX6_puts 153 = .ok (.iastore, 1) := by decide +kernel
theorem dX6_puts_154 : decode cX6_puts 154 = .ok (.iinc 8 (-1), 3) := by decide +kernel
theorem dX6_puts_157 : decode cX6_puts 157 = .ok (.goto (-42), 3) := by decide +kernel
theorem dX6_puts_160 : decode cX6_puts 160 = .ok (.aload_n 0, 1) := by decide +kernel
theorem dX6_puts_161 : decode cX6_puts 161 = .ok (.getfield 22, 3) := by decide +kernel
theorem dX6_puts_164 : decode cX6_puts 164 = .ok (.iload 7, 2) := by decide +kernel
theorem dX6_puts_166 : decode cX6_puts 166 = .ok (.lload 5, 2) := by decide +kernel
theorem dX6_puts_168 : decode cX6_puts 168 = .ok (.lastore, 1) := by decide +kernel
theorem dX6_puts_169 : decode cX6_puts 169 = .ok (.aload_n 0, 1) := by decide +kernel
theorem dX6_puts_170 : decode cX6_puts 170 = .ok (.getfield 26, 3) := by decide +kernel
theorem dX6_puts_173 : decode cX6_puts 173 = .ok (.iload 7, 2) := by decide +kernel
theorem dX6_puts_175 : decode cX6_puts 175 = .ok (.iload 4, 2) := by decide +kernel
theorem dX6_puts_177 : decode cX6_puts 177 = .ok (.iastore, 1) := by decide +kernel
theorem dX6_puts_178 : decode cX6_puts 178 = .ok (.aload_n 0, 1) := by decide +kernel
theorem dX6_puts_179 : decode cX6_puts 179 = .ok (.getfield 7, 3) := by decide +kernel
theorem dX6_puts_182 : decode cX6_puts 182 = .ok (.iconst 0, 1) := by decide +kernel
theorem dX6_puts_183 : decode cX6_puts 183 = .ok (.aload_n 0, 1) := by decide +kernel
theorem dX6_puts_184 : decode cX6_puts 184 = .ok (.getfield 7, 3) := by decide +kernel
theorem dX6_puts_187 : decode cX6_puts 187 = .ok (.iconst 0, 1) := by decide +kernel
theorem dX6_puts_188 : decode cX6_puts 188 = .ok (.iaload, 1) := by decide +kernel
theorem dX6_puts_189 : decode cX6_puts 189 = .ok (.iconst 1, 1) := by decide +kernel
theorem dX6_puts_190 : decode cX6_puts 190 = .ok (.iadd, 1) := by decide +kernel
theorem dX6_puts_191 : decode cX6_puts 191 = .ok (.iastore, 1) := by decide +kernel
theorem dX6_puts_192 : decode cX6_puts 192 = .ok (.return_, 1) := by decide +kernel
set_option maxRecDepth 20000 in
theorem ggX6_takes_X6_codeOf : GoodIn wsX6_takes wsX6_codeOf := goodIn_r _ [11, 12, 17, 18, 19, 20, 21, 22, 23, 24, 25, 26, 27, 28, 29, 30, 31, 32, 33, 34, 35, 36, 37, 38, 39, 40, 41] (by decide +kernel) (by decide +kernel)
set_option maxRecDepth 20000 in
theorem gX6_takes_X6_codeOf : GoodIn wsX6_takes (wsV RX6 63 RX6 yX6_codeOf wsX6_codeOf) := goodIn_app (goodIn_of _ (by decide +kernel)) ggX6_takes_X6_codeOf
set_option maxRecDepth 20000 in
theorem ggX6_takes_X6_below : GoodIn wsX6_takes wsX6_below := goodIn_r _ [16, 3, 5, 17, 18, 19, 20, 21, 22, 23, 24, 25, 26, 27, 28, 29, 30, 31, 32, 33, 34, 35, 36, 37, 38, 39, 40, 41] (by decide +kernel) (by decide +kernel)
set_option maxRecDepth 20000 in
theorem gX6_takes_X6_below : GoodIn wsX6_takes (wsV RX6 67 RX6 yX6_below wsX6_below) := goodIn_app (goodIn_of _ (by decide +kernel)) ggX6_takes_X6_below
theorem dX6_takes_0 : decode cX6_takes 0 = .ok (.aload_n 0, 1) := by decide +kernel
theorem dX6_takes_1 : decode cX6_takes 1 = .ok (.iconst 0, 1) := by decide +kernel
theorem dX6_takes_2 : decode cX6_takes 2 = .ok (.aload_n 0, 1) := by decide +kernel
theorem dX6_takes_3 : decode cX6_takes 3 = .ok (.aload_n 0, 1) := by decide +kernel
theorem dX6_takes_4 : decode cX6_takes 4 = .ok (.getfield 13, 3) := by decide +kernel
theorem dX6_takes_7 : decode cX6_takes 7 = .ok (.iload_n 1, 1) := by decide +kernel
theorem dX6_takes_8 : decode cX6_takes 8 = .ok (.iaload, 1) := by decide +kernel
theorem dX6_takes_9 : decode cX6_takes 9 = .ok (.aload_n 0, 1) := by decide +kernel
theorem dX6_takes_10 : decode cX6_takes 10 = .ok (.getfield 16, 3) := by decide +kernel
theorem dX6_takes_13 : decode cX6_takes 13 = .ok (.iload_n 1, 1) := by decide +kernel
theorem dX6_takes_14 : decode cX6_takes 14 = .ok (.iaload, 1) := by decide +kernel
theorem dX6_takes_15 : decode cX6_takes 15 = .ok (.invokevirtual 63, 3) := by decide +kernel
theorem dX6_takes_18 : decode cX6_takes 18 = .ok (.invokevirtual 67, 3) := by decide +kernel
theorem dX6_takes_21 : decode cX6_takes 21 = .ok (.istore_n 2, 1) := by decide +kernel
theorem dX6_takes_22 : decode cX6_takes 22 = .ok (.aload_n 0, 1) := by decide +kernel
theorem dX6_takes_23 : decode cX6_takes 23 = .ok (.getfield 7, 3) := by decide +kernel
theorem dX6_takes_26 : decode cX6_takes 26 = .ok (.iconst 0, 1) := by decide +kernel
theorem dX6_takes_27 : decode cX6_takes 27 = .ok (.aload_n 0, 1) := by decide +kernel
theorem dX6_takes_28 : decode cX6_takes 28 = .ok (.getfield 7, 3) := by decide +kernel
theorem dX6_takes_31 : decode cX6_takes 31 = .ok (.iconst 0, 1) := by decide +kernel
theorem dX6_takes_32 : decode cX6_takes 32 = .ok (.iaload, 1) := by decide +kernel
theorem dX6_takes_33 : decode cX6_takes 33 = .ok (.iconst 1, 1) := by decide +kernel
theorem dX6_takes_34 : decode cX6_takes 34 = .ok (.isub, 1) := by decide +kernel
theorem dX6_takes_35 : decode cX6_takes 35 = .ok (.iastore, 1) := by decide +kernel
theorem dX6_takes_36 : decode cX6_takes 36 = .ok (.iload_n 1, 1) := by decide +kernel
theorem dX6_takes_37 : decode cX6_takes 37 = .ok (.istore_n 3, 1) := by decide +kernel
theorem dX6_takes_38 : decode cX6_takes 38 = .ok (.iload_n 3, 1) := by decide +kernel
theorem dX6_takes_39 : decode cX6_takes 39 = .ok (.aload_n 0, 1) := by decide +kernel
theorem dX6_takes_40 : decode cX6_takes 40 = .ok (.getfield 7, 3) := by decide +kernel
theorem dX6_takes_43 : decode cX6_takes 43 = .ok (.iconst 0, 1) := by decide +kernel
theorem dX6_takes_44 : decode cX6_takes 44 = .ok (.iaload, 1) := by decide +kernel
theorem dX6_takes_45 : decode cX6_takes 45 = .ok (.if_icmp .ge 51, 3) := by decide +kernel
theorem dX6_takes_48 : decode cX6_takes 48 = .ok (.aload_n 0, 1) := by decide +kernel
theorem dX6_takes_49 : decode cX6_takes 49 = .ok (.getfield 13, 3) := by decide +kernel
theorem dX6_takes_52 : decode cX6_takes 52 = .ok (.iload_n 3, 1) := by decide +kernel
theorem dX6_takes_53 : decode cX6_takes 53 = .ok (.aload_n 0, 1) := by decide +kernel
theorem dX6_takes_54 : decode cX6_takes 54 = .ok (.getfield 13, 3) := by decide +kernel
theorem dX6_takes_57 : decode cX6_takes 57 = .ok (.iload_n 3, 1) := by decide +kernel
theorem dX6_takes_58 : decode cX6_takes 58 = .ok (.iconst 1, 1) := by decide +kernel
theorem dX6_takes_59 : decode cX6_takes 59 = .ok (.iadd, 1) := by decide +kernel
theorem dX6_takes_60 : decode cX6_takes 60 = .ok (.iaload, 1) := by decide +kernel
theorem dX6_takes_61 : decode cX6_takes 61 = .ok (.iastore, 1) := by decide +kernel
theorem dX6_takes_62 : decode cX6_takes 62 = .ok (.aload_n 0, 1) := by decide +kernel
theorem dX6_takes_63 : decode cX6_takes 63 = .ok (.getfield 16, 3) := by decide +kernel
theorem dX6_takes_66 : decode cX6_takes 66 = .ok (.iload_n 3, 1) := by decide +kernel
theorem dX6_takes_67 : decode cX6_takes 67 = .ok (.aload_n 0, 1) := by decide +kernel
theorem dX6_takes_68 : decode cX6_takes 68 = .ok (.getfield 16, 3) := by decide +kernel
theorem dX6_takes_71 : decode cX6_takes 71 = .ok (.iload_n 3, 1) := by decide +kernel
theorem dX6_takes_72 : decode cX6_takes 72 = .ok (.iconst 1, 1) := by decide +kernel
theorem dX6_takes_73 : decode cX6_takes 73 = .ok (.iadd, 1) := by decide +kernel
theorem dX6_takes_74 : decode cX6_takes 74 = .ok (.iaload, 1) := by decide +kernel
theorem dX6_takes_75 : decode cX6_takes 75 = .ok (.iastore, 1) := by decide +kernel
theorem dX6_takes_76 : decode cX6_takes 76 = .ok (.aload_n 0, 1) := by decide +kernel
theorem dX6_takes_77 : decode cX6_takes 77 = .ok (.getfield 19, 3) := by decide +kernel
theorem dX6_takes_80 : decode cX6_takes 80 = .ok (.iload_n 3, 1) := by decide +kernel
theorem dX6_takes_81 : decode cX6_takes 81 = .ok (.aload_n 0, 1) := by decide +kernel
theorem dX6_takes_82 : decode cX6_takes 82 = .ok (.getfield 19, 3) := by decide +kernel
theorem dX6_takes_85 : decode cX6_takes 85 = .ok (.iload_n 3, 1) := by decide +kernel
theorem dX6_takes_86 : decode cX6_takes 86 = .ok (.iconst 1, 1) := by decide +kernel
theorem dX6_takes_87 : decode cX6_takes 87 = .ok (.iadd, 1) := by decide +kernel
theorem dX6_takes_88 : decode cX6_takes 88 = .ok (.iaload, 1) := by decide +kernel
theorem dX6_takes_89 : decode cX6_takes 89 = .ok (.iastore, 1) := by decide +kernel
theorem dX6_takes_90 : decode cX6_takes 90 = .ok (.iinc 3 1, 3) := by decide +kernel
theorem dX6_takes_93 : decode cX6_takes 93 = .ok (.goto (-55), 3) := by decide +kernel
theorem dX6_takes_96 : decode cX6_takes 96 = .ok (.iload_n 2, 1) := by decide +kernel
theorem dX6_takes_97 : decode cX6_takes 97 = .ok (.istore_n 3, 1) := by decide +kernel
theorem dX6_takes_98 : decode cX6_takes 98 = .ok (.iload_n 3, 1) := by decide +kernel
theorem dX6_takes_99 : decode cX6_takes 99 = .ok (.aload_n 0, 1) := by decide +kernel
theorem dX6_takes_100 : decode cX6_takes 100 = .ok (.getfield 7, 3) := by decide +kernel
theorem dX6_takes_103 : decode cX6_takes 103 = .ok (.iconst 0, 1) := by decide +kernel
theorem dX6_takes_104 : decode cX6_takes 104 = .ok (.iaload, 1) := by decide +kernel
theorem dX6_takes_105 : decode cX6_takes 105 = .ok (.if_icmp .ge 37, 3) := by decide +kernel
theorem dX6_takes_108 : decode cX6_takes 108 = .ok (.aload_n 0, 1) := by decide +kernel
theorem dX6_takes_109 : decode cX6_takes 109 = .ok (.getfield 22, 3) := by decide +kernel
theorem dX6_takes_112 : decode cX6_takes 112 = .ok (.iload_n 3, 1) := by decide +kernel
theorem dX6_takes_113 : decode cX6_takes 113 = .ok (.aload_n 0, 1) := by decide +kernel
theorem dX6_takes_114 : decode cX6_takes 114 = .ok (.getfield 22, 3) := by decide +kernel
theorem dX6_takes_117 : decode cX6_takes 117 = .ok (.iload_n 3, 1) := by decide +kernel
theorem dX6_takes_118 : decode cX6_takes 118 = .ok (.iconst 1, 1) := by decide +kernel
theorem dX6_takes_119 : decode cX6_takes 119 = .ok (.iadd, 1) := by decide +kernel
theorem dX6_takes_120 : decode cX6_takes 120 = .ok (.laload, 1) := by decide +kernel
theorem dX6_takes_121 : decode cX6_takes 121 = .ok (.lastore, 1) := by decide +kernel
theorem dX6_takes_122 : decode cX6_takes 122 = .ok (.aload_n 0, 1) := by decide +kernel
theorem dX6_takes_123 : decode cX6_takes 123 = .ok (.getfield 26, 3) := by decide +kernel
theorem dX6_takes_126 : decode cX6_takes 126 = .ok (.iload_n 3, 1) := by decide +kernel
theorem dX6_takes_127 : decode cX6_takes 127 = .ok (.aload_n 0, 1) := by decide +kernel
theorem dX6_takes_128 : decode cX6_takes 128 = .ok (.getfield 26, 3) := by decide +kernel
theorem dX6_takes_131 : decode cX6_takes 131 = .ok (.iload_n 3, 1) := by decide +kernel
theorem dX6_takes_132 : decode cX6_takes 132 = .ok (.iconst 1, 1) := by decide +kernel
theorem dX6_takes_133 : decode cX6_takes 133 = .ok (.iadd, 1) := by decide +kernel
theorem dX6_takes_134 : decode cX6_takes 134 = .ok (.iaload, 1) := by decide +kernel
theorem dX6_takes_135 : decode cX6_takes 135 = .ok (.iastore, 1) := by decide +kernel
theorem dX6_takes_136 : decode cX6_takes 136 = .ok (.iinc 3 1, 3) := by decide +kernel
theorem dX6_takes_139 : decode cX6_takes 139 = .ok (.goto (-41), 3) := by decide +kernel
theorem dX6_takes_142 : decode cX6_takes 142 = .ok (.return_, 1) := by decide +kernel
theorem dX6_becomes_0 : decode cX6_becomes 0 = .ok (.aload_n 0, 1) := by decide +kernel
theorem dX6_becomes_1 : decode cX6_becomes 1 = .ok (.getfield 7, 3) := by decide +kernel
theorem dX6_becomes_4 : decode cX6_becomes 4 = .ok (.iload_n 1, 1) := by decide +kernel
theorem dX6_becomes_5 : decode cX6_becomes 5 = .ok (.aload_n 0, 1) := by decide +kernel
theorem dX6_becomes_6 : decode cX6_becomes 6 = .ok (.getfield 7, 3) := by decide +kernel
theorem dX6_becomes_9 : decode cX6_becomes 9 = .ok (.iload_n 2, 1) := by decide +kernel
theorem dX6_becomes_10 : decode cX6_becomes 10 = .ok (.iaload, 1) := by decide +kernel
theorem dX6_becomes_11 : decode cX6_becomes 11 = .ok (.iastore, 1) := by decide +kernel
theorem dX6_becomes_12 : decode cX6_becomes 12 = .ok (.iconst 0, 1) := by decide +kernel
theorem dX6_becomes_13 : decode cX6_becomes 13 = .ok (.istore_n 3, 1) := by decide +kernel
theorem dX6_becomes_14 : decode cX6_becomes 14 = .ok (.iload_n 3, 1) := by decide +kernel
theorem dX6_becomes_15 : decode cX6_becomes 15 = .ok (.aload_n 0, 1) := by decide +kernel
theorem dX6_becomes_16 : decode cX6_becomes 16 = .ok (.getfield 7, 3) := by decide +kernel
theorem dX6_becomes_19 : decode cX6_becomes 19 = .ok (.iload_n 2, 1) := by decide +kernel
theorem dX6_becomes_20 : decode cX6_becomes 20 = .ok (.iaload, 1) := by decide +kernel
theorem dX6_becomes_21 : decode cX6_becomes 21 = .ok (.if_icmp .ge 97, 3) := by decide +kernel
theorem dX6_becomes_24 : decode cX6_becomes 24 = .ok (.sipush 3300, 3) := by decide +kernel
theorem dX6_becomes_27 : decode cX6_becomes 27 = .ok (.iload_n 1, 1) := by decide +kernel
theorem dX6_becomes_28 : decode cX6_becomes 28 = .ok (.imul, 1) := by decide +kernel
theorem dX6_becomes_29 : decode cX6_becomes 29 = .ok (.iload_n 3, 1) := by decide +kernel
theorem dX6_becomes_30 : decode cX6_becomes 30 = .ok (.iadd, 1) := by decide +kernel
theorem dX6_becomes_31 : decode cX6_becomes 31 = .ok (.istore 4, 2) := by decide +kernel
theorem dX6_becomes_33 : decode cX6_becomes 33 = .ok (.sipush 3300, 3) := by decide +kernel
theorem dX6_becomes_36 : decode cX6_becomes 36 = .ok (.iload_n 2, 1) := by decide +kernel
theorem dX6_becomes_37 : decode cX6_becomes 37 = .ok (.imul, 1) := by decide +kernel
theorem dX6_becomes_38 : decode cX6_becomes 38 = .ok (.iload_n 3, 1) := by decide +kernel
theorem dX6_becomes_39 : decode cX6_becomes 39 = .ok (.iadd, 1) := by decide +kernel
theorem dX6_becomes_40 : decode cX6_becomes 40 = .ok (.istore 5, 2) := by decide +kernel
theorem dX6_becomes_42 : decode cX6_becomes 42 = .ok (.aload_n 0, 1) := by decide +kernel
theorem dX6_becomes_43 : decode cX6_becomes 43 = .ok (.getfield 13, 3) := by decide +kernel
theorem dX6_becomes_46 : decode cX6_becomes 46 = .ok (.iload 4, 2) := by decide +kernel
theorem dX6_becomes_48 : decode cX6_becomes 48 = .ok (.aload_n 0, 1) := by decide +kernel
theorem dX6_becomes_49 : decode cX6_becomes 49 = .ok (.getfield 13, 3) := by decide +kernel
theorem dX6_becomes_52 : decode cX6_becomes 52 = .ok (.iload 5, 2) := by decide +kernel
theorem dX6_becomes_54 : decode cX6_becomes 54 = .ok (.iaload, 1) := by decide +kernel
theorem dX6_becomes_55 : decode cX6_becomes 55 = .ok (.iastore, 1) := by decide +kernel
theorem dX6_becomes_56 : decode cX6_becomes 56 = .ok (.aload_n 0, 1) := by decide +kernel
theorem dX6_becomes_57 : decode cX6_becomes 57 = .ok (.getfield 16, 3) := by decide +kernel
theorem dX6_becomes_60 : decode cX6_becomes 60 = .ok (.iload 4, 2) := by decide +kernel
theorem dX6_becomes_62 : decode cX6_becomes 62 = .ok (.aload_n 0, 1) := by decide +kernel
theorem dX6_becomes_63 : decode cX6_becomes 63 = .ok (.getfield 16, 3) := by decide +kernel
theorem dX6_becomes_66 : decode cX6_becomes 66 = .ok (.iload 5, 2) := by decide +kernel
theorem dX6_becomes_68 : decode cX6_becomes 68 = .ok (.iaload, 1) := by decide +kernel
theorem dX6_becomes_69 : decode cX6_becomes 69 = .ok (.iastore, 1) := by decide +kernel
theorem dX6_becomes_70 : decode cX6_becomes 70 = .ok (.aload_n 0, 1) := by decide +kernel
theorem dX6_becomes_71 : decode cX6_becomes 71 = .ok (.getfield 19, 3) := by decide +kernel
theorem dX6_becomes_74 : decode cX6_becomes 74 = .ok (.iload 4, 2) := by decide +kernel
theorem dX6_becomes_76 : decode cX6_becomes 76 = .ok (.aload_n 0, 1) := by decide +kernel
theorem dX6_becomes_77 : decode cX6_becomes 77 = .ok (.getfield 19, 3) := by decide +kernel
theorem dX6_becomes_80 : decode cX6_becomes 80 = .ok (.iload 5, 2) := by decide +kernel
theorem dX6_becomes_82 : decode cX6_becomes 82 = .ok (.iaload, 1) := by decide +kernel
theorem dX6_becomes_83 : decode cX6_becomes 83 = .ok (.iastore, 1) := by decide +kernel
theorem dX6_becomes_84 : decode cX6_becomes 84 = .ok (.aload_n 0, 1) := by decide +kernel
theorem dX6_becomes_85 : decode cX6_becomes 85 = .ok (.getfield 22, 3) := by decide +kernel
theorem dX6_becomes_88 : decode cX6_becomes 88 = .ok (.iload 4, 2) := by decide +kernel
theorem dX6_becomes_90 : decode cX6_becomes 90 = .ok (.aload_n 0, 1) := by decide +kernel
theorem dX6_becomes_91 : decode cX6_becomes 91 = .ok (.getfield 22, 3) := by decide +kernel
theorem dX6_becomes_94 : decode cX6_becomes 94 = .ok (.iload 5, 2) := by decide +kernel
theorem dX6_becomes_96 : decode cX6_becomes 96 = .ok (.laload, 1) := by decide +kernel
theorem dX6_becomes_97 : decode cX6_becomes 97 = .ok (.lastore, 1) := by decide +kernel
theorem dX6_becomes_98 : decode cX6_becomes 98 = .ok (.aload_n 0, 1) := by decide +kernel
theorem dX6_becomes_99 : decode cX6_becomes 99 = .ok (.getfield 26, 3) := by decide +kernel
theorem dX6_becomes_102 : decode cX6_becomes 102 = .ok (.iload 4, 2) := by decide +kernel
theorem dX6_becomes_104 : decode cX6_becomes 104 = .ok (.aload_n 0, 1) := by decide +kernel
theorem dX6_becomes_105 : decode cX6_becomes 105 = .ok (.getfield 26, 3) := by decide +kernel
theorem dX6_becomes_108 : decode cX6_becomes 108 = .ok (.iload 5, 2) := by decide +kernel
theorem dX6_becomes_110 : decode cX6_becomes 110 = .ok (.iaload, 1) := by decide +kernel
theorem dX6_becomes_111 : decode cX6_becomes 111 = .ok (.iastore, 1) := by decide +kernel
theorem dX6_becomes_112 : decode cX6_becomes 112 = .ok (.iinc 3 1, 3) := by decide +kernel
theorem dX6_becomes_115 : decode cX6_becomes 115 = .ok (.goto (-101), 3) := by decide +kernel
theorem dX6_becomes_118 : decode cX6_becomes 118 = .ok (.aload_n 0, 1) := by decide +kernel
theorem dX6_becomes_119 : decode cX6_becomes 119 = .ok (.iconst 0, 1) := by decide +kernel
theorem dX6_becomes_120 : decode cX6_becomes 120 = .ok (.putfield 71, 3) := by decide +kernel
theorem dX6_becomes_123 : decode cX6_becomes 123 = .ok (.return_, 1) := by decide +kernel
theorem dX6_begins_0 : decode cX6_begins 0 = .ok (.aload_n 0, 1) := by decide +kernel
theorem dX6_begins_1 : decode cX6_begins 1 = .ok (.iconst 1, 1) := by decide +kernel
theorem dX6_begins_2 : decode cX6_begins 2 = .ok (.putfield 74, 3) := by decide +kernel
theorem dX6_begins_5 : decode cX6_begins 5 = .ok (.aload_n 0, 1) := by decide +kernel
theorem dX6_begins_6 : decode cX6_begins 6 = .ok (.getfield 33, 3) := by decide +kernel
theorem dX6_begins_9 : decode cX6_begins 9 = .ok (.iconst 0, 1) := by decide +kernel
theorem dX6_begins_10 : decode cX6_begins 10 = .ok (.iconst 0, 1) := by decide +kernel
theorem dX6_begins_11 : decode cX6_begins 11 = .ok (.iastore, 1) := by decide +kernel
theorem dX6_begins_12 : decode cX6_begins 12 = .ok (.aload_n 0, 1) := by decide +kernel
theorem dX6_begins_13 : decode cX6_begins 13 = .ok (.getfield 36, 3) := by decide +kernel
theorem dX6_begins_16 : decode cX6_begins 16 = .ok (.iconst 0, 1) := by decide +kernel
theorem dX6_begins_17 : decode cX6_begins 17 = .ok (.lconst 0, 1) := by decide +kernel
theorem dX6_begins_18 : decode cX6_begins 18 = .ok (.lastore, 1) := by decide +kernel
theorem dX6_begins_19 : decode cX6_begins 19 = .ok (.return_, 1) := by decide +kernel
theorem dX6_next_0 : decode cX6_next 0 = .ok (.aload_n 0, 1) := by decide +kernel
theorem dX6_next_1 : decode cX6_next 1 = .ok (.getfield 77, 3) := by decide +kernel
theorem dX6_next_4 : decode cX6_next 4 = .ok (.lconst 1, 1) := by decide +kernel
theorem dX6_next_5 : decode cX6_next 5 = .ok (.iconst 2, 1) := by decide +kernel
theorem dX6_next_6 : decode cX6_next 6 = .ok (.aload_n 0, 1) := by decide +kernel
theorem dX6_next_7 : decode cX6_next 7 = .ok (.getfield 57, 3) := by decide +kernel
theorem dX6_next_10 : decode cX6_next 10 = .ok (.aload_n 0, 1) := by decide +kernel
theorem dX6_next_11 : decode cX6_next 11 = .ok (.getfield 81, 3) := by decide +kernel
theorem dX6_next_14 : decode cX6_next 14 = .ok (.isub, 1) := by decide +kernel
theorem dX6_next_15 : decode cX6_next 15 = .ok (.imul, 1) := by decide +kernel
theorem dX6_next_16 : decode cX6_next 16 = .ok (.lshl, 1) := by decide +kernel
theorem dX6_next_17 : decode cX6_next 17 = .ok (.ladd, 1) := by decide +kernel
theorem dX6_next_18 : decode cX6_next 18 = .ok (.lreturn, 1) := by decide +kernel
set_option maxRecDepth 20000 in
theorem ggX6_comes_X6_below : GoodIn wsX6_comes wsX6_below := goodIn_r _ [14, 15, 16, 25, 26, 27, 28, 29, 30, 31, 32, 33, 34, 35, 36, 37, 38, 39, 40, 41, 42, 43, 44, 45, 46, 47, 48, 49] (by decide +kernel) (by decide +kernel)
set_option maxRecDepth 20000 in
theorem gX6_comes_X6_below : GoodIn wsX6_comes (wsV RX6 67 RX6 yX6_below wsX6_below) := goodIn_app (goodIn_of _ (by decide +kernel)) ggX6_comes_X6_below
set_option maxRecDepth 20000 in
theorem ggX6_comes_X6_next : GoodIn wsX6_comes wsX6_next := goodIn_r _ [20, 5, 9, 3, 25, 26, 27, 28, 29, 30, 31, 32, 33, 34, 35, 36, 37, 38, 39, 40, 41, 42, 43, 44, 45, 46, 47, 48, 49] (by decide +kernel) (by decide +kernel)
set_option maxRecDepth 20000 in
theorem gX6_comes_X6_next : GoodIn wsX6_comes (wsV RX6 87 RX6 yX6_next wsX6_next) := goodIn_app (goodIn_of _ (by decide +kernel)) ggX6_comes_X6_next
set_option maxRecDepth 20000 in
theorem ggX6_comes_X6_part : GoodIn wsX6_comes wsX6_part := goodIn_r _ [24, 9, 3, 5, 10, 11, 12, 13, 14, 15, 16, 25, 26, 27, 28, 29, 30, 31, 32, 33, 34, 35, 36, 37, 38, 39, 40, 41, 42, 43, 44, 45, 46, 47, 48, 49] (by decide +kernel) (by decide +kernel)
set_option maxRecDepth 20000 in
theorem gX6_comes_X6_part : GoodIn wsX6_comes (wsV RX6 94 RX6 yX6_part wsX6_part) := goodIn_app (goodIn_of _ (by decide +kernel)) ggX6_comes_X6_part
theorem dX6_comes_0 : decode cX6_comes 0 = .ok (.aload_n 0, 1) := by decide +kernel
theorem dX6_comes_1 : decode cX6_comes 1 = .ok (.getfield 74, 3) := by decide +kernel
theorem dX6_comes_4 : decode cX6_comes 4 = .ok (.ifCond .ne 5, 3) := by decide +kernel
theorem dX6_comes_7 : decode cX6_comes 7 = .ok (.iconst 0, 1) := by decide +kernel
theorem dX6_comes_8 : decode cX6_comes 8 = .ok (.ireturn, 1) := by decide +kernel
theorem dX6_comes_9 : decode cX6_comes 9 = .ok (.aload_n 0, 1) := by decide +kernel
theorem dX6_comes_10 : decode cX6_comes 10 = .ok (.aload_n 0, 1) := by decide +kernel
theorem dX6_comes_11 : decode cX6_comes 11 = .ok (.getfield 74, 3) := by decide +kernel
theorem dX6_comes_14 : decode cX6_comes 14 = .ok (.iconst 1, 1) := by decide +kernel
theorem dX6_comes_15 : decode cX6_comes 15 = .ok (.isub, 1) := by decide +kernel
theorem dX6_comes_16 : decode cX6_comes 16 = .ok (.putfield 74, 3) := by decide +kernel
theorem dX6_comes_19 : decode cX6_comes 19 = .ok (.aload_n 0, 1) := by decide +kernel
theorem dX6_comes_20 : decode cX6_comes 20 = .ok (.aload_n 0, 1) := by decide +kernel
theorem dX6_comes_21 : decode cX6_comes 21 = .ok (.getfield 33, 3) := by decide +kernel
theorem dX6_comes_24 : decode cX6_comes 24 = .ok (.aload_n 0, 1) := by decide +kernel
theorem dX6_comes_25 : decode cX6_comes 25 = .ok (.getfield 74, 3) := by decide +kernel
theorem dX6_comes_28 : decode cX6_comes 28 = .ok (.iaload, 1) := by decide +kernel
theorem dX6_comes_29 : decode cX6_comes 29 = .ok (.putfield 81, 3) := by decide +kernel
theorem dX6_comes_32 : decode cX6_comes 32 = .ok (.aload_n 0, 1) := by decide +kernel
theorem dX6_comes_33 : decode cX6_comes 33 = .ok (.aload_n 0, 1) := by decide +kernel
theorem dX6_comes_34 : decode cX6_comes 34 = .ok (.getfield 36, 3) := by decide +kernel
theorem dX6_comes_37 : decode cX6_comes 37 = .ok (.aload_n 0, 1) := by decide +kernel
theorem dX6_comes_38 : decode cX6_comes 38 = .ok (.getfield 74, 3) := by decide +kernel
theorem dX6_comes_41 : decode cX6_comes 41 = .ok (.laload, 1) := by decide +kernel
theorem dX6_comes_42 : decode cX6_comes 42 = .ok (.putfield 77, 3) := by decide +kernel
theorem dX6_comes_45 : decode cX6_comes 45 = .ok (.aload_n 0, 1) := by decide +kernel
theorem dX6_comes_46 : decode cX6_comes 46 = .ok (.aload_n 0, 1) := by decide +kernel
theorem dX6_comes_47 : decode cX6_comes 47 = .ok (.iload_n 1, 1) := by decide +kernel
theorem dX6_comes_48 : decode cX6_comes 48 = .ok (.aload_n 0, 1) := by decide +kernel
theorem dX6_comes_49 : decode cX6_comes 49 = .ok (.getfield 77, 3) := by decide +kernel
theorem dX6_comes_52 : decode cX6_comes 52 = .ok (.invokevirtual 67, 3) := by decide +kernel
theorem dX6_comes_55 : decode cX6_comes 55 = .ok (.putfield 84, 3) := by decide +kernel
theorem dX6_comes_58 : decode cX6_comes 58 = .ok (.aload_n 0, 1) := by decide +kernel
theorem dX6_comes_59 : decode cX6_comes 59 = .ok (.aload_n 0, 1) := by decide +kernel
theorem dX6_comes_60 : decode cX6_comes 60 = .ok (.iload_n 1, 1) := by decide +kernel
theorem dX6_comes_61 : decode cX6_comes 61 = .ok (.aload_n 0, 1) := by decide +kernel
theorem dX6_comes_62 : decode cX6_comes 62 = .ok (.invokevirtual 87, 3) := by decide +kernel
theorem dX6_comes_65 : decode cX6_comes 65 = .ok (.invokevirtual 67, 3) := by decide +kernel
theorem dX6_comes_68 : decode cX6_comes 68 = .ok (.putfield 91, 3) := by decide +kernel
theorem dX6_comes_71 : decode cX6_comes 71 = .ok (.aload_n 0, 1) := by decide +kernel
theorem dX6_comes_72 : decode cX6_comes 72 = .ok (.getfield 91, 3) := by decide +kernel
theorem dX6_comes_75 : decode cX6_comes 75 = .ok (.aload_n 0, 1) := by decide +kernel
theorem dX6_comes_76 : decode cX6_comes 76 = .ok (.getfield 84, 3) := by decide +kernel
theorem dX6_comes_79 : decode cX6_comes 79 = .ok (.isub, 1) := by decide +kernel
theorem dX6_comes_80 : decode cX6_comes 80 = .ok (.aload_n 0, 1) := by decide +kernel
theorem dX6_comes_81 : decode cX6_comes 81 = .ok (.getfield 54, 3) := by decide +kernel
theorem dX6_comes_84 : decode cX6_comes 84 = .ok (.if_icmp .gt 5, 3) := by decide +kernel
theorem dX6_comes_87 : decode cX6_comes 87 = .ok (.iconst 1, 1) := by decide +kernel
theorem dX6_comes_88 : decode cX6_comes 88 = .ok (.ireturn, 1) := by decide +kernel
theorem dX6_comes_89 : decode cX6_comes 89 = .ok (.iconst 3, 1) := by decide +kernel
theorem dX6_comes_90 : decode cX6_comes 90 = .ok (.istore_n 2, 1) := by decide +kernel
theorem dX6_comes_91 : decode cX6_comes 91 = .ok (.iload_n 2, 1) := by decide +kernel
theorem dX6_comes_92 : decode cX6_comes 92 = .ok (.ifCond .lt 76, 3) := by decide +kernel
theorem dX6_comes_95 : decode cX6_comes 95 = .ok (.aload_n 0, 1) := by decide +kernel
theorem dX6_comes_96 : decode cX6_comes 96 = .ok (.iload_n 1, 1) := by decide +kernel
theorem dX6_comes_97 : decode cX6_comes 97 = .ok (.iload_n 2, 1) := by decide +kernel
theorem dX6_comes_98 : decode cX6_comes 98 = .ok (.invokevirtual 94, 3) := by decide +kernel
theorem dX6_comes_101 : decode cX6_comes 101 = .ok (.ifCond .ne 6, 3) := by decide +kernel
theorem dX6_comes_104 : decode cX6_comes 104 = .ok (.goto 58, 3) := by decide +kernel
theorem dX6_comes_107 : decode cX6_comes 107 = .ok (.aload_n 0, 1) := by decide +kernel
theorem dX6_comes_108 : decode cX6_comes 108 = .ok (.getfield 33, 3) := by decide +kernel
theorem dX6_comes_111 : decode cX6_comes 111 = .ok (.aload_n 0, 1) := by decide +kernel
theorem dX6_comes_112 : decode cX6_comes 112 = .ok (.getfield 74, 3) := by decide +kernel
theorem dX6_comes_115 : decode cX6_comes 115 = .ok (.aload_n 0, 1) := by decide +kernel
theorem dX6_comes_116 : decode cX6_comes 116 = .ok (.getfield 81, 3) := by decide +kernel
theorem dX6_comes_119 : decode cX6_comes 119 = .ok (.iconst 1, 1) := by decide +kernel
theorem dX6_comes_120 : decode cX6_comes 120 = .ok (.iadd, 1) := by decide +kernel
theorem dX6_comes_121 : decode cX6_comes 121 = .ok (.iastore, 1) := by decide +kernel
theorem dX6_comes_122 : decode cX6_comes 122 = .ok (.aload_n 0, 1) := by decide +kernel
theorem dX6_comes_123 : decode cX6_comes 123 = .ok (.getfield 36, 3) := by decide +kernel
theorem dX6_comes_126 : decode cX6_comes 126 = .ok (.aload_n 0, 1) := by decide +kernel
theorem dX6_comes_127 : decode cX6_comes 127 = .ok (.getfield 74, 3) := by decide +kernel
theorem dX6_comes_130 : decode cX6_comes 130 = .ok (.aload_n 0, 1) := by decide +kernel
theorem dX6_comes_131 : decode cX6_comes 131 = .ok (.getfield 77, 3) := by decide +kernel
theorem dX6_comes_134 : decode cX6_comes 134 = .ok (.iload_n 2, 1) := by decide +kernel
theorem dX6_comes_135 : decode cX6_comes 135 = .ok (.i2l, 1) := by decide +kernel
theorem dX6_comes_136 : decode cX6_comes 136 = .ok (.iconst 2, 1) := by decide +kernel
theorem dX6_comes_137 : decode cX6_comes 137 = .ok (.aload_n 0, 1) := by decide +kernel
theorem dX6_comes_138 : decode cX6_comes 138 = .ok (.getfield 57, 3) := by decide +kernel
theorem dX6_comes_141 : decode cX6_comes 141 = .ok (.aload_n 0, 1) := by decide +kernel
theorem dX6_comes_142 : decode cX6_comes 142 = .ok (.getfield 81, 3) := by decide +kernel
theorem dX6_comes_145 : decode cX6_comes 145 = .ok (.isub, 1) := by decide +kernel
theorem dX6_comes_146 : decode cX6_comes 146 = .ok (.iconst 1, 1) := by decide +kernel
theorem dX6_comes_147 : decode cX6_comes 147 = .ok (.isub, 1) := by decide +kernel
theorem dX6_comes_148 : decode cX6_comes 148 = .ok (.imul, 1) := by decide +kernel
theorem dX6_comes_149 : decode cX6_comes 149 = .ok (.lshl, 1) := by decide +kernel
theorem dX6_comes_150 : decode cX6_comes 150 = .ok (.ladd, 1) := by decide +kernel
theorem dX6_comes_151 : decode cX6_comes 151 = .ok (.lastore, 1) := by decide +kernel
theorem dX6_comes_152 : decode cX6_comes 152 = .ok (.aload_n 0, 1) := by decide +kernel
theorem dX6_comes_153 : decode cX6_comes 153 = .ok (.aload_n 0, 1) := by decide +kernel
theorem dX6_comes_154 : decode cX6_comes 154 = .ok (.getfield 74, 3) := by decide +kernel
theorem dX6_comes_157 : decode cX6_comes 157 = .ok (.iconst 1, 1) := by decide +kernel
theorem dX6_comes_158 : decode cX6_comes 158 = .ok (.iadd, 1) := by decide +kernel
theorem dX6_comes_159 : decode cX6_comes 159 = .ok (.putfield 74, 3) := by decide +kernel
theorem dX6_comes_162 : decode cX6_comes 162 = .ok (.iinc 2 (-1), 3) := by decide +kernel
theorem dX6_comes_165 : decode cX6_comes 165 = .ok (.goto (-74), 3) := by decide +kernel
theorem dX6_comes_168 : decode cX6_comes 168 = .ok (.iconst 1, 1) := by decide +kernel
theorem dX6_comes_169 : decode cX6_comes 169 = .ok (.ireturn, 1) := by decide +kernel
set_option maxRecDepth 20000 in
theorem ggX6_part_X6_below : GoodIn wsX6_part wsX6_below := goodIn_r _ [8, 9, 10, 11, 12, 13, 14, 15, 16, 17, 18, 19, 20, 21, 22, 23, 24, 25, 26, 27, 28, 29, 30, 31, 32, 33, 34, 35] (by decide +kernel) (by decide +kernel)
set_option maxRecDepth 20000 in
theorem gX6_part_X6_below : GoodIn wsX6_part (wsV RX6 67 RX6 yX6_below wsX6_below) := goodIn_app (goodIn_of _ (by decide +kernel)) ggX6_part_X6_below
theorem dX6_part_0 : decode cX6_part 0 = .ok (.lconst 1, 1) := by decide +kernel
theorem dX6_part_1 : decode cX6_part 1 = .ok (.iconst 2, 1) := by decide +kernel
theorem dX6_part_2 : decode cX6_part 2 = .ok (.aload_n 0, 1) := by decide +kernel
theorem dX6_part_3 : decode cX6_part 3 = .ok (.getfield 57, 3) := by decide +kernel
theorem dX6_part_6 : decode cX6_part 6 = .ok (.aload_n 0, 1) := by decide +kernel
theorem dX6_part_7 : decode cX6_part 7 = .ok (.getfield 81, 3) := by decide +kernel
theorem dX6_part_10 : decode cX6_part 10 = .ok (.isub, 1) := by decide +kernel
theorem dX6_part_11 : decode cX6_part 11 = .ok (.iconst 1, 1) := by decide +kernel
theorem dX6_part_12 : decode cX6_part 12 = .ok (.isub, 1) := by decide +kernel
theorem dX6_part_13 : decode cX6_part 13 = .ok (.imul, 1) := by decide +kernel
theorem dX6_part_14 : decode cX6_part 14 = .ok (.lshl, 1) := by decide +kernel
theorem dX6_part_15 : decode cX6_part 15 = .ok (.lstore_n 3, 1) := by decide +kernel
theorem dX6_part_16 : decode cX6_part 16 = .ok (.aload_n 0, 1) := by decide +kernel
theorem dX6_part_17 : decode cX6_part 17 = .ok (.iload_n 1, 1) := by decide +kernel
theorem dX6_part_18 : decode cX6_part 18 = .ok (.aload_n 0, 1) := by decide +kernel
theorem dX6_part_19 : decode cX6_part 19 = .ok (.getfield 77, 3) := by decide +kernel
theorem dX6_part_22 : decode cX6_part 22 = .ok (.iload_n 2, 1) := by decide +kernel
theorem dX6_part_23 : decode cX6_part 23 = .ok (.iconst 1, 1) := by decide +kernel
theorem dX6_part_24 : decode cX6_part 24 = .ok (.iadd, 1) := by decide +kernel
theorem dX6_part_25 : decode cX6_part 25 = .ok (.i2l, 1) := by decide +kernel
theorem dX6_part_26 : decode cX6_part 26 = .ok (.lload_n 3, 1) := by decide +kernel
theorem dX6_part_27 : decode cX6_part 27 = .ok (.lmul, 1) := by decide +kernel
theorem dX6_part_28 : decode cX6_part 28 = .ok (.ladd, 1) := by decide +kernel
theorem dX6_part_29 : decode cX6_part 29 = .ok (.invokevirtual 67, 3) := by decide +kernel
theorem dX6_part_32 : decode cX6_part 32 = .ok (.aload_n 0, 1) := by decide +kernel
theorem dX6_part_33 : decode cX6_part 33 = .ok (.iload_n 1, 1) := by decide +kernel
theorem dX6_part_34 : decode cX6_part 34 = .ok (.aload_n 0, 1) := by decide +kernel
theorem dX6_part_35 : decode cX6_part 35 = .ok (.getfield 77, 3) := by decide +kernel
theorem dX6_part_38 : decode cX6_part 38 = .ok (.iload_n 2, 1) := by decide +kernel
theorem dX6_part_39 : decode cX6_part 39 = .ok (.i2l, 1) := by decide +kernel
theorem dX6_part_40 : decode cX6_part 40 = .ok (.lload_n 3, 1) := by decide +kernel
theorem dX6_part_41 : decode cX6_part 41 = .ok (.lmul, 1) := by decide +kernel
theorem dX6_part_42 : decode cX6_part 42 = .ok (.ladd, 1) := by decide +kernel
theorem dX6_part_43 : decode cX6_part 43 = .ok (.invokevirtual 67, 3) := by decide +kernel
theorem dX6_part_46 : decode cX6_part 46 = .ok (.isub, 1) := by decide +kernel
theorem dX6_part_47 : decode cX6_part 47 = .ok (.ireturn, 1) := by decide +kernel
set_option maxRecDepth 20000 in
theorem ggX6_nodes_X6_begins : GoodIn wsX6_nodes wsX6_begins := goodIn_r _ [5, 6, 7, 8, 33, 34, 35, 36, 37, 38, 39, 40, 41, 42, 43, 44, 45, 46, 47, 48, 49, 50, 51, 52, 53, 54, 55, 56, 57] (by decide +kernel) (by decide +kernel)
set_option maxRecDepth 20000 in
theorem gX6_nodes_X6_begins : GoodIn wsX6_nodes (wsV RX6 98 RX6 yX6_begins wsX6_begins) := goodIn_app (goodIn_of _ (by decide +kernel)) ggX6_nodes_X6_begins
set_option maxRecDepth 20000 in
theorem ggX6_nodes_X6_comes : GoodIn wsX6_nodes wsX6_comes := goodIn_r _ [12, 6, 7, 13, 8, 14, 15, 16, 17, 18, 19, 20, 21, 4, 22, 23, 24, 25, 26, 27, 28, 29, 30, 31, 32, 33, 34, 35, 36, 37, 38, 39, 40, 41, 42, 43, 44, 45, 46, 47, 48, 49, 50, 51, 52, 53, 54, 55, 56, 57] (by decide +kernel) (by decide +kernel)
set_option maxRecDepth 20000 in
theorem gX6_nodes_X6_comes : GoodIn wsX6_nodes (wsV RX6 101 RX6 yX6_comes wsX6_comes) := goodIn_app (goodIn_of _ (by decide +kernel)) ggX6_nodes_X6_comes
theorem dX6_nodes_0 : decode cX6_nodes 0 = .ok (.iconst 0, 1) := by decide +kernel
theorem dX6_nodes_1 : decode cX6_nodes 1 = .ok (.istore_n 2, 1) := by decide +kernel
theorem dX6_nodes_2 : decode cX6_nodes 2 = .ok (.aload_n 0, 1) := by decide +kernel
theorem dX6_nodes_3 : decode cX6_nodes 3 = .ok (.invokevirtual 98, 3) := by decide +kernel
theorem dX6_nodes_6 : decode cX6_nodes 6 = .ok (.aload_n 0, 1) := by decide +kernel
theorem dX6_nodes_7 : decode cX6_nodes 7 = .ok (.iload_n 1, 1) := by decide +kernel
theorem dX6_nodes_8 : decode cX6_nodes 8 = .ok (.invokevirtual 101, 3) := by decide +kernel
theorem dX6_nodes_11 : decode cX6_nodes 11 = .ok (.ifCond .eq 10, 3) := by decide +kernel
theorem dX6_nodes_14 : decode cX6_nodes 14 = .ok (.iload_n 2, 1) := by decide +kernel
theorem dX6_nodes_15 : decode cX6_nodes 15 = .ok (.iconst 1, 1) := by decide +kernel
theorem dX6_nodes_16 : decode cX6_nodes 16 = .ok (.iadd, 1) := by decide +kernel
theorem dX6_nodes_17 : decode cX6_nodes 17 = .ok (.istore_n 2, 1) := by decide +kernel
theorem dX6_nodes_18 : decode cX6_nodes 18 = .ok (.goto (-12), 3) := by decide +kernel
theorem dX6_nodes_21 : decode cX6_nodes 21 = .ok (.iload_n 2, 1) := by decide +kernel
theorem dX6_nodes_22 : decode cX6_nodes 22 = .ok (.ireturn, 1) := by decide +kernel
set_option maxRecDepth 20000 in
theorem ggX6_depth_X6_begins : GoodIn wsX6_depth wsX6_begins := goodIn_r _ [6, 7, 8, 9, 33, 34, 35, 36, 37, 38, 39, 40, 41, 42, 43, 44, 45, 46, 47, 48, 49, 50, 51, 52, 53, 54, 55, 56, 57] (by decide +kernel) (by decide +kernel)
set_option maxRecDepth 20000 in
theorem gX6_depth_X6_begins : GoodIn wsX6_depth (wsV RX6 98 RX6 yX6_begins wsX6_begins) := goodIn_app (goodIn_of _ (by decide +kernel)) ggX6_depth_X6_begins
set_option maxRecDepth 20000 in
theorem ggX6_depth_X6_comes : GoodIn wsX6_depth wsX6_comes := goodIn_r _ [13, 7, 8, 1, 9, 14, 15, 16, 17, 18, 19, 20, 21, 5, 22, 23, 24, 25, 26, 27, 28, 29, 30, 31, 32, 33, 34, 35, 36, 37, 38, 39, 40, 41, 42, 43, 44, 45, 46, 47, 48, 49, 50, 51, 52, 53, 54, 55, 56, 57] (by decide +kernel) (by decide +kernel)
set_option maxRecDepth 20000 in
theorem gX6_depth_X6_comes : GoodIn wsX6_depth (wsV RX6 101 RX6 yX6_comes wsX6_comes) := goodIn_app (goodIn_of _ (by decide +kernel)) ggX6_depth_X6_comes
theorem dX6_depth_0 : decode cX6_depth 0 = .ok (.iconst 0, 1) := by decide +kernel
theorem dX6_depth_1 : decode cX6_depth 1 = .ok (.istore_n 1, 1) := by decide +kernel
theorem dX6_depth_2 : decode cX6_depth 2 = .ok (.aload_n 0, 1) := by decide +kernel
theorem dX6_depth_3 : decode cX6_depth 3 = .ok (.invokevirtual 98, 3) := by decide +kernel
theorem dX6_depth_6 : decode cX6_depth 6 = .ok (.aload_n 0, 1) := by decide +kernel
theorem dX6_depth_7 : decode cX6_depth 7 = .ok (.iconst 0, 1) := by decide +kernel
theorem dX6_depth_8 : decode cX6_depth 8 = .ok (.invokevirtual 101, 3) := by decide +kernel
theorem dX6_depth_11 : decode cX6_depth 11 = .ok (.ifCond .eq 23, 3) := by decide +kernel
theorem dX6_depth_14 : decode cX6_depth 14 = .ok (.aload_n 0, 1) := by decide +kernel
theorem dX6_depth_15 : decode cX6_depth 15 = .ok (.getfield 81, 3) := by decide +kernel
theorem dX6_depth_18 : decode cX6_depth 18 = .ok (.iload_n 1, 1) := by decide +kernel
theorem dX6_depth_19 : decode cX6_depth 19 = .ok (.if_icmp .le 10, 3) := by decide +kernel
theorem dX6_depth_22 : decode cX6_depth 22 = .ok (.aload_n 0, 1) := by decide +kernel
theorem dX6_depth_23 : decode cX6_depth 23 = .ok (.getfield 81, 3) := by decide +kernel
theorem dX6_depth_26 : decode cX6_depth 26 = .ok (.goto 4, 3) := by decide +kernel
theorem dX6_depth_29 : decode cX6_depth 29 = .ok (.iload_n 1, 1) := by decide +kernel
theorem dX6_depth_30 : decode cX6_depth 30 = .ok (.istore_n 1, 1) := by decide +kernel
theorem dX6_depth_31 : decode cX6_depth 31 = .ok (.goto (-25), 3) := by decide +kernel
theorem dX6_depth_34 : decode cX6_depth 34 = .ok (.iload_n 1, 1) := by decide +kernel
theorem dX6_depth_35 : decode cX6_depth 35 = .ok (.ireturn, 1) := by decide +kernel
set_option maxRecDepth 20000 in
theorem ggX6_node_X6_isState : GoodIn wsX6_node wsX6_isState := goodIn_r _ [13] (by decide +kernel) (by decide +kernel)
set_option maxRecDepth 20000 in
theorem gX6_node_X6_isState : GoodIn wsX6_node (va_wsS RX6 109 yX6_isState wsX6_isState) := goodIn_app (goodIn_of _ (by decide +kernel)) ggX6_node_X6_isState
set_option maxRecDepth 20000 in
theorem ggX6_node_X6_begins : GoodIn wsX6_node wsX6_begins := goodIn_r _ [17, 18, 19, 20, 39, 40, 41, 42, 43, 44, 45, 46, 47, 48, 49, 50, 51, 52, 53, 54, 55, 56, 57, 58, 59, 60, 61, 62, 63] (by decide +kernel) (by decide +kernel)
set_option maxRecDepth 20000 in
theorem gX6_node_X6_begins : GoodIn wsX6_node (wsV RX6 98 RX6 yX6_begins wsX6_begins) := goodIn_app (goodIn_of _ (by decide +kernel)) ggX6_node_X6_begins
set_option maxRecDepth 20000 in
theorem ggX6_node_X6_comes : GoodIn wsX6_node wsX6_comes := goodIn_r _ [24, 18, 19, 3, 20, 4, 6, 5, 7, 2, 25, 26, 27, 12, 28, 29, 30, 31, 32, 33, 34, 35, 36, 37, 38, 39, 40, 41, 42, 43, 44, 45, 46, 47, 48, 49, 50, 51, 52, 53, 54, 55, 56, 57, 58, 59, 60, 61, 62, 63] (by decide +kernel) (by decide +kernel)
set_option maxRecDepth 20000 in
theorem gX6_node_X6_comes : GoodIn wsX6_node (wsV RX6 101 RX6 yX6_comes wsX6_comes) := goodIn_app (goodIn_of _ (by decide +kernel)) ggX6_node_X6_comes
set_option maxRecDepth 20000 in
theorem ggX6_node_X6_part : GoodIn wsX6_node wsX6_part := goodIn_r _ [38, 2, 3, 4, 25, 26, 27, 12, 28, 29, 30, 39, 40, 41, 42, 43, 44, 45, 46, 47, 48, 49, 50, 51, 52, 53, 54, 55, 56, 57, 58, 59, 60, 61, 62, 63] (by decide +kernel) (by decide +kernel)
set_option maxRecDepth 20000 in
theorem gX6_node_X6_part : GoodIn wsX6_node (wsV RX6 94 RX6 yX6_part wsX6_part) := goodIn_app (goodIn_of _ (by decide +kernel)) ggX6_node_X6_part
theorem dX6_node_0 : decode cX6_node 0 = .ok (.aload_n 0, 1) := by decide +kernel
theorem dX6_node_1 : decode cX6_node 1 = .ok (.getfield 105, 3) := by decide +kernel
theorem dX6_node_4 : decode cX6_node 4 = .ok (.ifCond .eq 6, 3) := by decide +kernel
theorem dX6_node_7 : decode cX6_node 7 = .ok (.bipush (-2), 2) := by decide +kernel
theorem dX6_node_9 : decode cX6_node 9 = .ok (.ireturn, 1) := by decide +kernel
theorem dX6_node_10 : decode cX6_node 10 = .ok (.iload_n 1, 1) := by decide +kernel
theorem dX6_node_11 : decode cX6_node 11 = .ok (.invokestatic 109, 3) := by decide +kernel
theorem dX6_node_14 : decode cX6_node 14 = .ok (.ifCond .eq 16, 3) := by decide +kernel
theorem dX6_node_17 : decode cX6_node 17 = .ok (.iload_n 2, 1) := by decide +kernel
theorem dX6_node_18 : decode cX6_node 18 = .ok (.ifCond .lt 12, 3) := by decide +kernel
theorem dX6_node_21 : decode cX6_node 21 = .ok (.iload_n 3, 1) := by decide +kernel
theorem dX6_node_22 : decode cX6_node 22 = .ok (.ifCond .lt 8, 3) := by decide +kernel
theorem dX6_node_25 : decode cX6_node 25 = .ok (.iload_n 3, 1) := by decide +kernel
theorem dX6_node_26 : decode cX6_node 26 = .ok (.iconst 5, 1) := by decide +kernel
theorem dX6_node_27 : decode cX6_node 27 = .ok (.if_icmp .le 5, 3) := by decide +kernel
theorem dX6_node_30 : decode cX6_node 30 = .ok (.iconst (-1), 1) := by decide +kernel
theorem dX6_node_31 : decode cX6_node 31 = .ok (.ireturn, 1) := by decide +kernel
theorem dX6_node_32 : decode cX6_node 32 = .ok (.aload_n 0, 1) := by decide +kernel
theorem dX6_node_33 : decode cX6_node 33 = .ok (.invokevirtual 98, 3) := by decide +kernel
theorem dX6_node_36 : decode cX6_node 36 = .ok (.iconst 0, 1) := by decide +kernel
theorem dX6_node_37 : decode cX6_node 37 = .ok (.istore 4, 2) := by decide +kernel
theorem dX6_node_39 : decode cX6_node 39 = .ok (.iload 4, 2) := by decide +kernel
theorem dX6_node_41 : decode cX6_node 41 = .ok (.iload_n 2, 1) := by decide +kernel
theorem dX6_node_42 : decode cX6_node 42 = .ok (.if_icmp .gt 19, 3) := by decide +kernel
theorem dX6_node_45 : decode cX6_node 45 = .ok (.aload_n 0, 1) := by decide +kernel
theorem dX6_node_46 : decode cX6_node 46 = .ok (.iload_n 1, 1) := by decide +kernel
theorem dX6_node_47 : decode cX6_node 47 = .ok (.invokevirtual 101, 3) := by decide +kernel
theorem dX6_node_50 : decode cX6_node 50 = .ok (.ifCond .ne 5, 3) := by decide +kernel
theorem dX6_node_53 : decode cX6_node 53 = .ok (.iconst (-1), 1) := by decide +kernel
theorem dX6_node_54 : decode cX6_node 54 = .ok (.ireturn, 1) := by decide +kernel
theorem dX6_node_55 : decode cX6_node 55 = .ok (.iinc 4 1, 3) := by decide +kernel
theorem dX6_node_58 : decode cX6_node 58 = .ok (.goto (-19), 3) := by decide +kernel
theorem dX6_node_61 : decode cX6_node 61 = .ok (.iconst 0, 1) := by decide +kernel
theorem dX6_node_62 : decode cX6_node 62 = .ok (.istore 4, 2) := by decide +kernel
theorem dX6_node_64 : decode cX6_node 64 = .ok (.iload_n 3, 1) := by decide +kernel
theorem dX6_node_65 : decode cX6_node 65 = .ok (.tableswitch 194 0 4 #[35, 47, 88, 131, 141], 35) := by decide +kernel
theorem dX6_node_100 : decode cX6_node 100 = .ok (.iconst 1, 1) := by decide +kernel
theorem dX6_node_101 : decode cX6_node 101 = .ok (.aload_n 0, 1) := by decide +kernel
theorem dX6_node_102 : decode cX6_node 102 = .ok (.getfield 57, 3) := by decide +kernel
theorem dX6_node_105 : decode cX6_node 105 = .ok (.aload_n 0, 1) := by decide +kernel
theorem dX6_node_106 : decode cX6_node 106 = .ok (.getfield 81, 3) := by decide +kernel
theorem dX6_node_109 : decode cX6_node 109 = .ok (.isub, 1) := by decide +kernel
theorem dX6_node_110 : decode cX6_node 110 = .ok (.ishl, 1) := by decide +kernel
theorem dX6_node_111 : decode cX6_node 111 = .ok (.ireturn, 1) := by decide +kernel
theorem dX6_node_112 : decode cX6_node 112 = .ok (.iconst 0, 1) := by decide +kernel
theorem dX6_node_113 : decode cX6_node 113 = .ok (.istore 5, 2) := by decide +kernel
theorem dX6_node_115 : decode cX6_node 115 = .ok (.iload 5, 2) := by decide +kernel
theorem dX6_node_117 : decode cX6_node 117 = .ok (.aload_n 0, 1) := by decide +kernel
theorem dX6_node_118 : decode cX6_node 118 = .ok (.getfield 57, 3) := by decide +kernel
theorem dX6_node_121 : decode cX6_node 121 = .ok (.if_icmp .ge 29, 3) := by decide +kernel
theorem dX6_node_124 : decode cX6_node 124 = .ok (.iload 4, 2) := by decide +kernel
theorem dX6_node_126 : decode cX6_node 126 = .ok (.aload_n 0, 1) := by decide +kernel
theorem dX6_node_127 : decode cX6_node 127 = .ok (.getfield 77, 3) := by decide +kernel
theorem dX6_node_130 : decode cX6_node 130 = .ok (.iconst 2, 1) := by decide +kernel
theorem dX6_node_131 : decode cX6_node 131 = .ok (.iload 5, 2) := by decide +kernel
theorem dX6_node_133 : decode cX6_node 133 = .ok (.imul, 1) := by decide +kernel
theorem dX6_node_134 : decode cX6_node 134 = .ok (.lshr, 1) := by decide +kernel
theorem dX6_node_135 : decode cX6_node 135 = .ok (.lconst 1, 1) := by decide +kernel
theorem dX6_node_136 : decode cX6_node 136 = .ok (.land, 1) := by decide +kernel
theorem dX6_node_137 : decode cX6_node 137 = .ok (.l2i, 1) := by decide +kernel
theorem dX6_node_138 : decode cX6_node 138 = .ok (.iload 5, 2) := by decide +kernel
theorem dX6_node_140 : decode cX6_node 140 = .ok (.ishl, 1) := by decide +kernel
theorem dX6_node_141 : decode cX6_node 141 = .ok (.ior, 1) := by decide +kernel
theorem dX6_node_142 : decode cX6_node 142 = .ok (.istore 4, 2) := by decide +kernel
theorem dX6_node_144 : decode cX6_node 144 = .ok (.iinc 5 1, 3) := by decide +kernel
theorem dX6_node_147 : decode cX6_node 147 = .ok (.goto (-32), 3) := by decide +kernel
theorem dX6_node_150 : decode cX6_node 150 = .ok (.iload 4, 2) := by decide +kernel
theorem dX6_node_152 : decode cX6_node 152 = .ok (.ireturn, 1) := by decide +kernel
theorem dX6_node_153 : decode cX6_node 153 = .ok (.iconst 0, 1) := by decide +kernel
theorem dX6_node_154 : decode cX6_node 154 = .ok (.istore 5, 2) := by decide +kernel
theorem dX6_node_156 : decode cX6_node 156 = .ok (.iload 5, 2) := by decide +kernel
theorem dX6_node_158 : decode cX6_node 158 = .ok (.aload_n 0, 1) := by decide +kernel
theorem dX6_node_159 : decode cX6_node 159 = .ok (.getfield 57, 3) := by decide +kernel
theorem dX6_node_162 : decode cX6_node 162 = .ok (.if_icmp .ge 31, 3) := by decide +kernel
theorem dX6_node_165 : decode cX6_node 165 = .ok (.iload 4, 2) := by decide +kernel
theorem dX6_node_167 : decode cX6_node 167 = .ok (.aload_n 0, 1) := by decide +kernel
theorem dX6_node_168 : decode cX6_node 168 = .ok (.getfield 77, 3) := by decide +kernel
theorem dX6_node_171 : decode cX6_node 171 = .ok (.iconst 2, 1) := by decide +kernel
theorem dX6_node_172 : decode cX6_node 172 = .ok (.iload 5, 2) := by decide +kernel
theorem dX6_node_174 : decode cX6_node 174 = .ok (.imul, 1) := by decide +kernel
theorem dX6_node_175 : decode cX6_node 175 = .ok (.iconst 1, 1) := by decide +kernel
theorem dX6_node_176 : decode cX6_node 176 = .ok (.iadd, 1) := by decide +kernel
theorem dX6_node_177 : decode cX6_node 177 = .ok (.lshr, 1) := by decide +kernel
theorem dX6_node_178 : decode cX6_node 178 = .ok (.lconst 1, 1) := by decide +kernel
theorem dX6_node_179 : decode cX6_node 179 = .ok (.land, 1) := by decide +kernel
theorem dX6_node_180 : decode cX6_node 180 = .ok (.l2i, 1) := by decide +kernel
theorem dX6_node_181 : decode cX6_node 181 = .ok (.iload 5, 2) := by decide +kernel
theorem dX6_node_183 : decode cX6_node 183 = .ok (.ishl, 1) := by decide +kernel
theorem dX6_node_184 : decode cX6_node 184 = .ok (.ior, 1) := by decide +kernel
theorem dX6_node_185 : decode cX6_node 185 = .ok (.istore 4, 2) := by decide +kernel
theorem dX6_node_187 : decode cX6_node 187 = .ok (.iinc 5 1, 3) := by decide +kernel
theorem dX6_node_190 : decode cX6_node 190 = .ok (.goto (-34), 3) := by decide +kernel
theorem dX6_node_193 : decode cX6_node 193 = .ok (.iload 4, 2) := by decide +kernel
theorem dX6_node_195 : decode cX6_node 195 = .ok (.ireturn, 1) := by decide +kernel
theorem dX6_node_196 : decode cX6_node 196 = .ok (.aload_n 0, 1) := by decide +kernel
theorem dX6_node_197 : decode cX6_node 197 = .ok (.getfield 91, 3) := by decide +kernel
theorem dX6_node_200 : decode cX6_node 200 = .ok (.aload_n 0, 1) := by decide +kernel
theorem dX6_node_201 : decode cX6_node 201 = .ok (.getfield 84, 3) := by decide +kernel
theorem dX6_node_204 : decode cX6_node 204 = .ok (.isub, 1) := by decide +kernel
theorem dX6_node_205 : decode cX6_node 205 = .ok (.ireturn, 1) := by decide +kernel
theorem dX6_node_206 : decode cX6_node 206 = .ok (.iconst 0, 1) := by decide +kernel
theorem dX6_node_207 : decode cX6_node 207 = .ok (.istore 5, 2) := by decide +kernel
theorem dX6_node_209 : decode cX6_node 209 = .ok (.iload 5, 2) := by decide +kernel
theorem dX6_node_211 : decode cX6_node 211 = .ok (.iconst 4, 1) := by decide +kernel
theorem dX6_node_212 : decode cX6_node 212 = .ok (.if_icmp .ge 44, 3) := by decide +kernel
theorem dX6_node_215 : decode cX6_node 215 = .ok (.aload_n 0, 1) := by decide +kernel
theorem dX6_node_216 : decode cX6_node 216 = .ok (.getfield 91, 3) := by decide +kernel
theorem dX6_node_219 : decode cX6_node 219 = .ok (.aload_n 0, 1) := by decide +kernel
theorem dX6_node_220 : decode cX6_node 220 = .ok (.getfield 84, 3) := by decide +kernel
theorem dX6_node_223 : decode cX6_node 223 = .ok (.isub, 1) := by decide +kernel
theorem dX6_node_224 : decode cX6_node 224 = .ok (.aload_n 0, 1) := by decide +kernel
theorem dX6_node_225 : decode cX6_node 225 = .ok (.getfield 54, 3) := by decide +kernel
theorem dX6_node_228 : decode cX6_node 228 = .ok (.if_icmp .le 28, 3) := by decide +kernel
theorem dX6_node_231 : decode cX6_node 231 = .ok (.aload_n 0, 1) := by decide +kernel
theorem dX6_node_232 : decode cX6_node 232 = .ok (.iload_n 1, 1) := by decide +kernel
theorem dX6_node_233 : decode cX6_node 233 = .ok (.iload 5, 2) := by decide +kernel
theorem dX6_node_235 : decode cX6_node 235 = .ok (.invokevirtual 94, 3) := by decide +kernel
theorem dX6_node_238 : decode cX6_node 238 = .ok (.ifCond .le 12, 3) := by decide +kernel
theorem dX6_node_241 : decode cX6_node 241 = .ok (.iload 4, 2) := by decide +kernel
theorem dX6_node_243 : decode cX6_node 243 = .ok (.iconst 1, 1) := by decide +kernel
theorem dX6_node_244 : decode cX6_node 244 = .ok (.iload 5, 2) := by decide +kernel
theorem dX6_node_246 : decode cX6_node 246 = .ok (.ishl, 1) := by decide +kernel
theorem dX6_node_247 : decode cX6_node 247 = .ok (.ior, 1) := by decide +kernel
theorem dX6_node_248 : decode cX6_node 248 = .ok (.istore 4, 2) := by decide +kernel
theorem dX6_node_250 : decode cX6_node 250 = .ok (.iinc 5 1, 3) := by decide +kernel
theorem dX6_node_253 : decode cX6_node 253 = .ok (.goto (-44), 3) := by decide +kernel
theorem dX6_node_256 : decode cX6_node 256 = .ok (.iload 4, 2) := by decide +kernel
theorem dX6_node_258 : decode cX6_node 258 = .ok (.ireturn, 1) := by decide +kernel
theorem dX6_node_259 : decode cX6_node 259 = .ok (.aload_n 0, 1) := by decide +kernel
theorem dX6_node_260 : decode cX6_node 260 = .ok (.getfield 84, 3) := by decide +kernel
theorem dX6_node_263 : decode cX6_node 263 = .ok (.istore 5, 2) := by decide +kernel
theorem dX6_node_265 : decode cX6_node 265 = .ok (.iload 5, 2) := by decide +kernel
theorem dX6_node_267 : decode cX6_node 267 = .ok (.aload_n 0, 1) := by decide +kernel
theorem dX6_node_268 : decode cX6_node 268 = .ok (.getfield 91, 3) := by decide +kernel
theorem dX6_node_271 : decode cX6_node 271 = .ok (.if_icmp .ge 30, 3) := by decide +kernel
theorem dX6_node_274 : decode cX6_node 274 = .ok (.iload 4, 2) := by decide +kernel
theorem dX6_node_276 : decode cX6_node 276 = .ok (.aload_n 0, 1) := by decide +kernel
theorem dX6_node_277 : decode cX6_node 277 = .ok (.getfield 26, 3) := by decide +kernel
theorem dX6_node_280 : decode cX6_node 280 = .ok (.sipush 3300, 3) := by decide +kernel
theorem dX6_node_283 : decode cX6_node 283 = .ok (.iload_n 1, 1) := by decide +kernel
theorem dX6_node_284 : decode cX6_node 284 = .ok (.imul, 1) := by decide +kernel
theorem dX6_node_285 : decode cX6_node 285 = .ok (.iload 5, 2) := by decide +kernel
theorem dX6_node_287 : decode cX6_node 287 = .ok (.iadd, 1) := by decide +kernel
theorem dX6_node_288 : decode cX6_node 288 = .ok (.iaload, 1) := by decide +kernel
theorem dX6_node_289 : decode cX6_node 289 = .ok (.ldc 112, 2) := by decide +kernel
theorem dX6_node_291 : decode cX6_node 291 = .ok (.iand, 1) := by decide +kernel
theorem dX6_node_292 : decode cX6_node 292 = .ok (.iadd, 1) := by decide +kernel
theorem dX6_node_293 : decode cX6_node 293 = .ok (.istore 4, 2) := by decide +kernel
theorem dX6_node_295 : decode cX6_node 295 = .ok (.iinc 5 1, 3) := by decide +kernel
theorem dX6_node_298 : decode cX6_node 298 = .ok (.goto (-33), 3) := by decide +kernel
theorem dX6_node_301 : decode cX6_node 301 = .ok (.iload 4, 2) := by decide +kernel
theorem dX6_node_303 : decode cX6_node 303 = .ok (.ireturn, 1) := by decide +kernel
set_option maxRecDepth 20000 in
theorem ggX6_insert_X6_isInside : GoodIn wsX6_insert wsX6_isInside := goodIn_r _ [10, 11, 69, 70, 71, 72, 73, 74, 75, 76, 77, 78, 79, 80, 81, 82, 83, 84, 85, 86, 87, 88, 89, 90, 91, 92, 93] (by decide +kernel) (by decide +kernel)
set_option maxRecDepth 20000 in
theorem gX6_insert_X6_isInside : GoodIn wsX6_insert (wsV RX6 113 RX6 yX6_isInside wsX6_isInside) := goodIn_app (goodIn_of _ (by decide +kernel)) ggX6_insert_X6_isInside
set_option maxRecDepth 20000 in
theorem ggX6_insert_X6_placeOf : GoodIn wsX6_insert wsX6_placeOf := goodIn_r _ [15, 16, 17, 18, 69, 70, 71, 72, 73, 74, 75, 76, 77, 78, 79, 80, 81, 82, 83, 84, 85, 86, 87, 88, 89, 90, 91, 92, 93] (by decide +kernel) (by decide +kernel)
set_option maxRecDepth 20000 in
theorem gX6_insert_X6_placeOf : GoodIn wsX6_insert (wsV RX6 117 RX6 yX6_placeOf wsX6_placeOf) := goodIn_app (goodIn_of _ (by decide +kernel)) ggX6_insert_X6_placeOf
set_option maxRecDepth 20000 in
theorem ggX6_insert_X6_isAt : GoodIn wsX6_insert wsX6_isAt := goodIn_r _ [22, 16, 17, 18, 69, 70, 71, 72, 73, 74, 75, 76, 77, 78, 79, 80, 81, 82, 83, 84, 85, 86, 87, 88, 89, 90, 91, 92, 93] (by decide +kernel) (by decide +kernel)
set_option maxRecDepth 20000 in
theorem gX6_insert_X6_isAt : GoodIn wsX6_insert (wsV RX6 121 RX6 yX6_isAt wsX6_isAt) := goodIn_app (goodIn_of _ (by decide +kernel)) ggX6_insert_X6_isAt
set_option maxRecDepth 20000 in
theorem ggX6_insert_X6_codeOf : GoodIn wsX6_insert wsX6_codeOf := goodIn_r _ [26, 27, 69, 70, 71, 72, 73, 74, 75, 76, 77, 78, 79, 80, 81, 82, 83, 84, 85, 86, 87, 88, 89, 90, 91, 92, 93] (by decide +kernel) (by decide +kernel)
set_option maxRecDepth 20000 in
theorem gX6_insert_X6_codeOf : GoodIn wsX6_insert (wsV RX6 63 RX6 yX6_codeOf wsX6_codeOf) := goodIn_app (goodIn_of _ (by decide +kernel)) ggX6_insert_X6_codeOf
set_option maxRecDepth 20000 in
theorem ggX6_insert_X6_below : GoodIn wsX6_insert wsX6_below := goodIn_r _ [31, 16, 32, 69, 70, 71, 72, 73, 74, 75, 76, 77, 78, 79, 80, 81, 82, 83, 84, 85, 86, 87, 88, 89, 90, 91, 92, 93] (by decide +kernel) (by decide +kernel)
set_option maxRecDepth 20000 in
theorem gX6_insert_X6_below : GoodIn wsX6_insert (wsV RX6 67 RX6 yX6_below wsX6_below) := goodIn_app (goodIn_of _ (by decide +kernel)) ggX6_insert_X6_below
set_option maxRecDepth 20000 in
theorem ggX6_insert_X6_puts : GoodIn wsX6_insert wsX6_puts := goodIn_r _ [36, 16, 17, 18, 3, 32, 4, 23, 24, 25, 9, 26, 27, 28, 29, 30, 31, 69, 70, 71, 72, 73, 74, 75, 76, 77, 78, 79, 80, 81, 82, 83, 84, 85, 86, 87, 88, 89, 90, 91, 92, 93] (by decide +kernel) (by decide +kernel)
set_option maxRecDepth 20000 in
theorem gX6_insert_X6_puts : GoodIn wsX6_insert (wsV RX6 125 RX6 yX6_puts wsX6_puts) := goodIn_app (goodIn_of _ (by decide +kernel)) ggX6_insert_X6_puts
set_option maxRecDepth 20000 in
theorem ggX6_insert_X6_nodes : GoodIn wsX6_insert wsX6_nodes := goodIn_r _ [40, 41, 42, 43, 9, 44, 45, 46, 47, 48, 49, 50, 51, 52, 53, 54, 55, 56, 27, 28, 29, 30, 31, 16, 32, 57, 58, 59, 60, 61, 62, 63, 64, 69, 70, 71, 72, 73, 74, 75, 76, 77, 78, 79, 80, 81, 82, 83, 84, 85, 86, 87, 88, 89, 90, 91, 92, 93] (by decide +kernel) (by decide +kernel)
set_option maxRecDepth 20000 in
theorem gX6_insert_X6_nodes : GoodIn wsX6_insert (wsV RX6 129 RX6 yX6_nodes wsX6_nodes) := goodIn_app (goodIn_of _ (by decide +kernel)) ggX6_insert_X6_nodes
set_option maxRecDepth 20000 in
theorem ggX6_insert_X6_takes : GoodIn wsX6_insert wsX6_takes := goodIn_r _ [68, 17, 18, 16, 3, 32, 4, 23, 24, 25, 9, 26, 27, 28, 29, 30, 31, 69, 70, 71, 72, 73, 74, 75, 76, 77, 78, 79, 80, 81, 82, 83, 84, 85, 86, 87, 88, 89, 90, 91, 92, 93] (by decide +kernel) (by decide +kernel)
set_option maxRecDepth 20000 in
theorem gX6_insert_X6_takes : GoodIn wsX6_insert (wsV RX6 133 RX6 yX6_takes wsX6_takes) := goodIn_app (goodIn_of _ (by decide +kernel)) ggX6_insert_X6_takes
theorem dX6_insert_0 : decode cX6_insert 0 = .ok (.aload_n 0, 1) := by decide +kernel
theorem dX6_insert_1 : decode cX6_insert 1 = .ok (.getfield 105, 3) := by decide +kernel
theorem dX6_insert_4 : decode cX6_insert 4 = .ok (.ifCond .eq 6, 3) := by decide +kernel
theorem dX6_insert_7 : decode cX6_insert 7 = .ok (.bipush (-2), 2) := by decide +kernel
theorem dX6_insert_9 : decode cX6_insert 9 = .ok (.ireturn, 1) := by decide +kernel
theorem dX6_insert_10 : decode cX6_insert 10 = .ok (.aload_n 0, 1) := by decide +kernel
theorem dX6_insert_11 : decode cX6_insert 11 = .ok (.iload_n 1, 1) := by decide +kernel
theorem dX6_insert_12 : decode cX6_insert 12 = .ok (.iload_n 2, 1) := by decide +kernel
theorem dX6_insert_13 : decode cX6_insert 13 = .ok (.invokevirtual 113, 3) := by decide +kernel
theorem dX6_insert_16 : decode cX6_insert 16 = .ok (.ifCond .eq 7, 3) := by decide +kernel
theorem dX6_insert_19 : decode cX6_insert 19 = .ok (.iload_n 3, 1) := by decide +kernel
theorem dX6_insert_20 : decode cX6_insert 20 = .ok (.ifCond .ge 5, 3) := by decide +kernel
theorem dX6_insert_23 : decode cX6_insert 23 = .ok (.iconst 2, 1) := by decide +kernel
theorem dX6_insert_24 : decode cX6_insert 24 = .ok (.ireturn, 1) := by decide +kernel
theorem dX6_insert_25 : decode cX6_insert 25 = .ok (.aload_n 0, 1) := by decide +kernel
theorem dX6_insert_26 : decode cX6_insert 26 = .ok (.getfield 71, 3) := by decide +kernel
theorem dX6_insert_29 : decode cX6_insert 29 = .ok (.bipush 60, 2) := by decide +kernel
theorem dX6_insert_31 : decode cX6_insert 31 = .ok (.if_icmp .ne 5, 3) := by decide +kernel
theorem dX6_insert_34 : decode cX6_insert 34 = .ok (.iconst 3, 1) := by decide +kernel
theorem dX6_insert_35 : decode cX6_insert 35 = .ok (.ireturn, 1) := by decide +kernel
theorem dX6_insert_36 : decode cX6_insert 36 = .ok (.aload_n 0, 1) := by decide +kernel
theorem dX6_insert_37 : decode cX6_insert 37 = .ok (.iconst 0, 1) := by decide +kernel
theorem dX6_insert_38 : decode cX6_insert 38 = .ok (.iload_n 1, 1) := by decide +kernel
theorem dX6_insert_39 : decode cX6_insert 39 = .ok (.iload_n 2, 1) := by decide +kernel
theorem dX6_insert_40 : decode cX6_insert 40 = .ok (.invokevirtual 117, 3) := by decide +kernel
theorem dX6_insert_43 : decode cX6_insert 43 = .ok (.istore 4, 2) := by decide +kernel
theorem dX6_insert_45 : decode cX6_insert 45 = .ok (.aload_n 0, 1) := by decide +kernel
theorem dX6_insert_46 : decode cX6_insert 46 = .ok (.iconst 0, 1) := by decide +kernel
theorem dX6_insert_47 : decode cX6_insert 47 = .ok (.iload 4, 2) := by decide +kernel
theorem dX6_insert_49 : decode cX6_insert 49 = .ok (.iload_n 1, 1) := by decide +kernel
theorem dX6_insert_50 : decode cX6_insert 50 = .ok (.iload_n 2, 1) := by decide +kernel
theorem dX6_insert_51 : decode cX6_insert 51 = .ok (.invokevirtual 121, 3) := by decide +kernel
theorem dX6_insert_54 : decode cX6_insert 54 = .ok (.ifCond .eq 40, 3) := by decide +kernel
theorem dX6_insert_57 : decode cX6_insert 57 = .ok (.aload_n 0, 1) := by decide +kernel
theorem dX6_insert_58 : decode cX6_insert 58 = .ok (.getfield 19, 3) := by decide +kernel
theorem dX6_insert_61 : decode cX6_insert 61 = .ok (.iload 4, 2) := by decide +kernel
theorem dX6_insert_63 : decode cX6_insert 63 = .ok (.iload_n 3, 1) := by decide +kernel
theorem dX6_insert_64 : decode cX6_insert 64 = .ok (.iastore, 1) := by decide +kernel
theorem dX6_insert_65 : decode cX6_insert 65 = .ok (.aload_n 0, 1) := by decide +kernel
theorem dX6_insert_66 : decode cX6_insert 66 = .ok (.getfield 26, 3) := by decide +kernel
theorem dX6_insert_69 : decode cX6_insert 69 = .ok (.aload_n 0, 1) := by decide +kernel
theorem dX6_insert_70 : decode cX6_insert 70 = .ok (.iconst 0, 1) := by decide +kernel
theorem dX6_insert_71 : decode cX6_insert 71 = .ok (.aload_n 0, 1) := by decide +kernel
theorem dX6_insert_72 : decode cX6_insert 72 = .ok (.iload_n 1, 1) := by decide +kernel
theorem dX6_insert_73 : decode cX6_insert 73 = .ok (.iload_n 2, 1) := by decide +kernel
theorem dX6_insert_74 : decode cX6_insert 74 = .ok (.invokevirtual 63, 3) := by decide +kernel
theorem dX6_insert_77 : decode cX6_insert 77 = .ok (.invokevirtual 67, 3) := by decide +kernel
theorem dX6_insert_80 : decode cX6_insert 80 = .ok (.iload_n 3, 1) := by decide +kernel
theorem dX6_insert_81 : decode cX6_insert 81 = .ok (.iastore, 1) := by decide +kernel
theorem dX6_insert_82 : decode cX6_insert 82 = .ok (.aload_n 0, 1) := by decide +kernel
theorem dX6_insert_83 : decode cX6_insert 83 = .ok (.aload_n 0, 1) := by decide +kernel
theorem dX6_insert_84 : decode cX6_insert 84 = .ok (.getfield 71, 3) := by decide +kernel
theorem dX6_insert_87 : decode cX6_insert 87 = .ok (.iconst 1, 1) := by decide +kernel
theorem dX6_insert_88 : decode cX6_insert 88 = .ok (.iadd, 1) := by decide +kernel
theorem dX6_insert_89 : decode cX6_insert 89 = .ok (.putfield 71, 3) := by decide +kernel
theorem dX6_insert_92 : decode cX6_insert 92 = .ok (.iconst 1, 1) := by decide +kernel
theorem dX6_insert_93 : decode cX6_insert 93 = .ok (.ireturn, 1) := by decide +kernel
theorem dX6_insert_94 : decode cX6_insert 94 = .ok (.aload_n 0, 1) := by decide +kernel
theorem dX6_insert_95 : decode cX6_insert 95 = .ok (.iload 4, 2) := by decide +kernel
theorem dX6_insert_97 : decode cX6_insert 97 = .ok (.iload_n 1, 1) := by decide +kernel
theorem dX6_insert_98 : decode cX6_insert 98 = .ok (.iload_n 2, 1) := by decide +kernel
theorem dX6_insert_99 : decode cX6_insert 99 = .ok (.iload_n 3, 1) := by decide +kernel
theorem dX6_insert_100 : decode cX6_insert 100 = .ok (.invokevirtual 125, 3) := by decide +kernel
theorem dX6_insert_103 : decode cX6_insert 103 = .ok (.aload_n 0, 1) := by decide +kernel
theorem dX6_insert_104 : decode cX6_insert 104 = .ok (.iconst 0, 1) := by decide +kernel
theorem dX6_insert_105 : decode cX6_insert 105 = .ok (.invokevirtual 129, 3) := by decide +kernel
theorem dX6_insert_108 : decode cX6_insert 108 = .ok (.aload_n 0, 1) := by decide +kernel
theorem dX6_insert_109 : decode cX6_insert 109 = .ok (.getfield 51, 3) := by decide +kernel
theorem dX6_insert_112 : decode cX6_insert 112 = .ok (.if_icmp .le 11, 3) := by decide +kernel
theorem dX6_insert_115 : decode cX6_insert 115 = .ok (.aload_n 0, 1) := by decide +kernel
theorem dX6_insert_116 : decode cX6_insert 116 = .ok (.iload 4, 2) := by decide +kernel
theorem dX6_insert_118 : decode cX6_insert 118 = .ok (.invokevirtual 133, 3) := by decide +kernel
theorem dX6_insert_121 : decode cX6_insert 121 = .ok (.iconst 4, 1) := by decide +kernel
theorem dX6_insert_122 : decode cX6_insert 122 = .ok (.ireturn, 1) := by decide +kernel
theorem dX6_insert_123 : decode cX6_insert 123 = .ok (.aload_n 0, 1) := by decide +kernel
theorem dX6_insert_124 : decode cX6_insert 124 = .ok (.aload_n 0, 1) := by decide +kernel
theorem dX6_insert_125 : decode cX6_insert 125 = .ok (.getfield 71, 3) := by decide +kernel
theorem dX6_insert_128 : decode cX6_insert 128 = .ok (.iconst 1, 1) := by decide +kernel
theorem dX6_insert_129 : decode cX6_insert 129 = .ok (.iadd, 1) := by decide +kernel
theorem dX6_insert_130 : decode cX6_insert 130 = .ok (.putfield 71, 3) := by decide +kernel
theorem dX6_insert_133 : decode cX6_insert 133 = .ok (.iconst 0, 1) := by decide +kernel
theorem dX6_insert_134 : decode cX6_insert 134 = .ok (.ireturn, 1) := by decide +kernel
set_option maxRecDepth 20000 in
theorem ggX6_delete_X6_isInside : GoodIn wsX6_delete wsX6_isInside := goodIn_r _ [7, 8, 36, 37, 38, 39, 40, 41, 42, 43, 44, 45, 46, 47, 48, 49, 50, 51, 52, 53, 54, 55, 56, 57, 58, 59, 60] (by decide +kernel) (by decide +kernel)
set_option maxRecDepth 20000 in
theorem gX6_delete_X6_isInside : GoodIn wsX6_delete (wsV RX6 113 RX6 yX6_isInside wsX6_isInside) := goodIn_app (goodIn_of _ (by decide +kernel)) ggX6_delete_X6_isInside
set_option maxRecDepth 20000 in
theorem ggX6_delete_X6_placeOf : GoodIn wsX6_delete wsX6_placeOf := goodIn_r _ [12, 13, 14, 15, 36, 37, 38, 39, 40, 41, 42, 43, 44, 45, 46, 47, 48, 49, 50, 51, 52, 53, 54, 55, 56, 57, 58, 59, 60] (by decide +kernel) (by decide +kernel)
set_option maxRecDepth 20000 in
theorem gX6_delete_X6_placeOf : GoodIn wsX6_delete (wsV RX6 117 RX6 yX6_placeOf wsX6_placeOf) := goodIn_app (goodIn_of _ (by decide +kernel)) ggX6_delete_X6_placeOf
set_option maxRecDepth 20000 in
theorem ggX6_delete_X6_isAt : GoodIn wsX6_delete wsX6_isAt := goodIn_r _ [19, 13, 14, 15, 36, 37, 38, 39, 40, 41, 42, 43, 44, 45, 46, 47, 48, 49, 50, 51, 52, 53, 54, 55, 56, 57, 58, 59, 60] (by decide +kernel) (by decide +kernel)
set_option maxRecDepth 20000 in
theorem gX6_delete_X6_isAt : GoodIn wsX6_delete (wsV RX6 121 RX6 yX6_isAt wsX6_isAt) := goodIn_app (goodIn_of _ (by decide +kernel)) ggX6_delete_X6_isAt
set_option maxRecDepth 20000 in
theorem ggX6_delete_X6_takes : GoodIn wsX6_delete wsX6_takes := goodIn_r _ [23, 14, 15, 13, 24, 25, 26, 27, 28, 29, 6, 30, 31, 32, 33, 34, 35, 36, 37, 38, 39, 40, 41, 42, 43, 44, 45, 46, 47, 48, 49, 50, 51, 52, 53, 54, 55, 56, 57, 58, 59, 60] (by decide +kernel) (by decide +kernel)
set_option maxRecDepth 20000 in
theorem gX6_delete_X6_takes : GoodIn wsX6_delete (wsV RX6 133 RX6 yX6_takes wsX6_takes) := goodIn_app (goodIn_of _ (by decide +kernel)) ggX6_delete_X6_takes
theorem dX6_delete_0 : decode cX6_delete 0 = .ok (.aload_n 0, 1) := by decide +kernel
theorem dX6_delete_1 : decode cX6_delete 1 = .ok (.getfield 105, 3) := by decide +kernel
theorem dX6_delete_4 : decode cX6_delete 4 = .ok (.ifCond .eq 6, 3) := by decide +kernel
theorem dX6_delete_7 : decode cX6_delete 7 = .ok (.bipush (-2), 2) := by decide +kernel
theorem dX6_delete_9 : decode cX6_delete 9 = .ok (.ireturn, 1) := by decide +kernel
theorem dX6_delete_10 : decode cX6_delete 10 = .ok (.aload_n 0, 1) := by decide +kernel
theorem dX6_delete_11 : decode cX6_delete 11 = .ok (.iload_n 1, 1) := by decide +kernel
theorem dX6_delete_12 : decode cX6_delete 12 = .ok (.iload_n 2, 1) := by decide +kernel
theorem dX6_delete_13 : decode cX6_delete 13 = .ok (.invokevirtual 113, 3) := by decide +kernel
theorem dX6_delete_16 : decode cX6_delete 16 = .ok (.ifCond .ne 5, 3) := by decide +kernel
theorem dX6_delete_19 : decode cX6_delete 19 = .ok (.iconst 2, 1) := by decide +kernel
theorem dX6_delete_20 : decode cX6_delete 20 = .ok (.ireturn, 1) := by decide +kernel
theorem dX6_delete_21 : decode cX6_delete 21 = .ok (.aload_n 0, 1) := by decide +kernel
theorem dX6_delete_22 : decode cX6_delete 22 = .ok (.iconst 0, 1) := by decide +kernel
theorem dX6_delete_23 : decode cX6_delete 23 = .ok (.iload_n 1, 1) := by decide +kernel
theorem dX6_delete_24 : decode cX6_delete 24 = .ok (.iload_n 2, 1) := by decide +kernel
theorem dX6_delete_25 : decode cX6_delete 25 = .ok (.invokevirtual 117, 3) := by decide +kernel
theorem dX6_delete_28 : decode cX6_delete 28 = .ok (.istore_n 3, 1) := by decide +kernel
theorem dX6_delete_29 : decode cX6_delete 29 = .ok (.aload_n 0, 1) := by decide +kernel
theorem dX6_delete_30 : decode cX6_delete 30 = .ok (.iconst 0, 1) := by decide +kernel
theorem dX6_delete_31 : decode cX6_delete 31 = .ok (.iload_n 3, 1) := by decide +kernel
theorem dX6_delete_32 : decode cX6_delete 32 = .ok (.iload_n 1, 1) := by decide +kernel
theorem dX6_delete_33 : decode cX6_delete 33 = .ok (.iload_n 2, 1) := by decide +kernel
theorem dX6_delete_34 : decode cX6_delete 34 = .ok (.invokevirtual 121, 3) := by decide +kernel
theorem dX6_delete_37 : decode cX6_delete 37 = .ok (.ifCond .ne 5, 3) := by decide +kernel
theorem dX6_delete_40 : decode cX6_delete 40 = .ok (.iconst 5, 1) := by decide +kernel
theorem dX6_delete_41 : decode cX6_delete 41 = .ok (.ireturn, 1) := by decide +kernel
theorem dX6_delete_42 : decode cX6_delete 42 = .ok (.aload_n 0, 1) := by decide +kernel
theorem dX6_delete_43 : decode cX6_delete 43 = .ok (.getfield 71, 3) := by decide +kernel
theorem dX6_delete_46 : decode cX6_delete 46 = .ok (.bipush 60, 2) := by decide +kernel
theorem dX6_delete_48 : decode cX6_delete 48 = .ok (.if_icmp .ne 5, 3) := by decide +kernel
theorem dX6_delete_51 : decode cX6_delete 51 = .ok (.iconst 3, 1) := by decide +kernel
theorem dX6_delete_52 : decode cX6_delete 52 = .ok (.ireturn, 1) := by decide +kernel
theorem dX6_delete_53 : decode cX6_delete 53 = .ok (.aload_n 0, 1) := by decide +kernel
theorem dX6_delete_54 : decode cX6_delete 54 = .ok (.iload_n 3, 1) := by decide +kernel
theorem dX6_delete_55 : decode cX6_delete 55 = .ok (.invokevirtual 133, 3) := by decide +kernel
theorem dX6_delete_58 : decode cX6_delete 58 = .ok (.aload_n 0, 1) := by decide +kernel
theorem dX6_delete_59 : decode cX6_delete 59 = .ok (.aload_n 0, 1) := by decide +kernel
theorem dX6_delete_60 : decode cX6_delete 60 = .ok (.getfield 71, 3) := by decide +kernel
theorem dX6_delete_63 : decode cX6_delete 63 = .ok (.iconst 1, 1) := by decide +kernel
theorem dX6_delete_64 : decode cX6_delete 64 = .ok (.iadd, 1) := by decide +kernel
theorem dX6_delete_65 : decode cX6_delete 65 = .ok (.putfield 71, 3) := by decide +kernel
theorem dX6_delete_68 : decode cX6_delete 68 = .ok (.iconst 0, 1) := by decide +kernel
theorem dX6_delete_69 : decode cX6_delete 69 = .ok (.ireturn, 1) := by decide +kernel
set_option maxRecDepth 20000 in
theorem ggX6_get_X6_isState : GoodIn wsX6_get wsX6_isState := goodIn_r _ [6] (by decide +kernel) (by decide +kernel)
set_option maxRecDepth 20000 in
theorem gX6_get_X6_isState : GoodIn wsX6_get (va_wsS RX6 109 yX6_isState wsX6_isState) := goodIn_app (goodIn_of _ (by decide +kernel)) ggX6_get_X6_isState
set_option maxRecDepth 20000 in
theorem ggX6_get_X6_placeOf : GoodIn wsX6_get wsX6_placeOf := goodIn_r _ [10, 11, 12, 13, 18, 19, 20, 21, 22, 23, 24, 25, 26, 27, 28, 29, 30, 31, 32, 33, 34, 35, 36, 37, 38, 39, 40, 41, 42] (by decide +kernel) (by decide +kernel)
set_option maxRecDepth 20000 in
theorem gX6_get_X6_placeOf : GoodIn wsX6_get (wsV RX6 117 RX6 yX6_placeOf wsX6_placeOf) := goodIn_app (goodIn_of _ (by decide +kernel)) ggX6_get_X6_placeOf
set_option maxRecDepth 20000 in
theorem ggX6_get_X6_isAt : GoodIn wsX6_get wsX6_isAt := goodIn_r _ [17, 11, 12, 13, 18, 19, 20, 21, 22, 23, 24, 25, 26, 27, 28, 29, 30, 31, 32, 33, 34, 35, 36, 37, 38, 39, 40, 41, 42] (by decide +kernel) (by decide +kernel)
set_option maxRecDepth 20000 in
theorem gX6_get_X6_isAt : GoodIn wsX6_get (wsV RX6 121 RX6 yX6_isAt wsX6_isAt) := goodIn_app (goodIn_of _ (by decide +kernel)) ggX6_get_X6_isAt
theorem dX6_get_0 : decode cX6_get 0 = .ok (.aload_n 0, 1) := by decide +kernel
theorem dX6_get_1 : decode cX6_get 1 = .ok (.getfield 105, 3) := by decide +kernel
theorem dX6_get_4 : decode cX6_get 4 = .ok (.ifCond .eq 6, 3) := by decide +kernel
theorem dX6_get_7 : decode cX6_get 7 = .ok (.bipush (-2), 2) := by decide +kernel
theorem dX6_get_9 : decode cX6_get 9 = .ok (.ireturn, 1) := by decide +kernel
theorem dX6_get_10 : decode cX6_get 10 = .ok (.iload_n 1, 1) := by decide +kernel
theorem dX6_get_11 : decode cX6_get 11 = .ok (.invokestatic 109, 3) := by decide +kernel
theorem dX6_get_14 : decode cX6_get 14 = .ok (.ifCond .ne 5, 3) := by decide +kernel
theorem dX6_get_17 : decode cX6_get 17 = .ok (.iconst (-1), 1) := by decide +kernel
theorem dX6_get_18 : decode cX6_get 18 = .ok (.ireturn, 1) := by decide +kernel
theorem dX6_get_19 : decode cX6_get 19 = .ok (.aload_n 0, 1) := by decide +kernel
theorem dX6_get_20 : decode cX6_get 20 = .ok (.iload_n 1, 1) := by decide +kernel
theorem dX6_get_21 : decode cX6_get 21 = .ok (.iload_n 2, 1) := by decide +kernel
theorem dX6_get_22 : decode cX6_get 22 = .ok (.iload_n 3, 1) := by decide +kernel
theorem dX6_get_23 : decode cX6_get 23 = .ok (.invokevirtual 117, 3) := by decide +kernel
theorem dX6_get_26 : decode cX6_get 26 = .ok (.istore 4, 2) := by decide +kernel
theorem dX6_get_28 : decode cX6_get 28 = .ok (.aload_n 0, 1) := by decide +kernel
theorem dX6_get_29 : decode cX6_get 29 = .ok (.iload_n 1, 1) := by decide +kernel
theorem dX6_get_30 : decode cX6_get 30 = .ok (.iload 4, 2) := by decide +kernel
theorem dX6_get_32 : decode cX6_get 32 = .ok (.iload_n 2, 1) := by decide +kernel
theorem dX6_get_33 : decode cX6_get 33 = .ok (.iload_n 3, 1) := by decide +kernel
theorem dX6_get_34 : decode cX6_get 34 = .ok (.invokevirtual 121, 3) := by decide +kernel
theorem dX6_get_37 : decode cX6_get 37 = .ok (.ifCond .eq 19, 3) := by decide +kernel
theorem dX6_get_40 : decode cX6_get 40 = .ok (.aload_n 0, 1) := by decide +kernel
theorem dX6_get_41 : decode cX6_get 41 = .ok (.getfield 19, 3) := by decide +kernel
theorem dX6_get_44 : decode cX6_get 44 = .ok (.sipush 3300, 3) := by decide +kernel
theorem dX6_get_47 : decode cX6_get 47 = .ok (.iload_n 1, 1) := by decide +kernel
theorem dX6_get_48 : decode cX6_get 48 = .ok (.imul, 1) := by decide +kernel
theorem dX6_get_49 : decode cX6_get 49 = .ok (.iload 4, 2) := by decide +kernel
theorem dX6_get_51 : decode cX6_get 51 = .ok (.iadd, 1) := by decide +kernel
theorem dX6_get_52 : decode cX6_get 52 = .ok (.iaload, 1) := by decide +kernel
theorem dX6_get_53 : decode cX6_get 53 = .ok (.goto 4, 3) := by decide +kernel
theorem dX6_get_56 : decode cX6_get 56 = .ok (.iconst (-1), 1) := by decide +kernel
theorem dX6_get_57 : decode cX6_get 57 = .ok (.ireturn, 1) := by decide +kernel
theorem dX6_tells_0 : decode cX6_tells 0 = .ok (.iload_n 1, 1) := by decide +kernel
theorem dX6_tells_1 : decode cX6_tells 1 = .ok (.sipush 150, 3) := by decide +kernel
theorem dX6_tells_4 : decode cX6_tells 4 = .ok (.if_icmp .lt 4, 3) := by decide +kernel
theorem dX6_tells_7 : decode cX6_tells 7 = .ok (.return_, 1) := by decide +kernel
theorem dX6_tells_8 : decode cX6_tells 8 = .ok (.aload_n 0, 1) := by decide +kernel
theorem dX6_tells_9 : decode cX6_tells 9 = .ok (.getfield 39, 3) := by decide +kernel
theorem dX6_tells_12 : decode cX6_tells 12 = .ok (.iload_n 1, 1) := by decide +kernel
theorem dX6_tells_13 : decode cX6_tells 13 = .ok (.iload_n 2, 1) := by decide +kernel
theorem dX6_tells_14 : decode cX6_tells 14 = .ok (.iastore, 1) := by decide +kernel
theorem dX6_tells_15 : decode cX6_tells 15 = .ok (.aload_n 0, 1) := by decide +kernel
theorem dX6_tells_16 : decode cX6_tells 16 = .ok (.getfield 42, 3) := by decide +kernel
theorem dX6_tells_19 : decode cX6_tells 19 = .ok (.iload_n 1, 1) := by decide +kernel
theorem dX6_tells_20 : decode cX6_tells 20 = .ok (.iload_n 3, 1) := by decide +kernel
theorem dX6_tells_21 : decode cX6_tells 21 = .ok (.iastore, 1) := by decide +kernel
theorem dX6_tells_22 : decode cX6_tells 22 = .ok (.aload_n 0, 1) := by decide +kernel
theorem dX6_tells_23 : decode cX6_tells 23 = .ok (.getfield 45, 3) := by decide +kernel
theorem dX6_tells_26 : decode cX6_tells 26 = .ok (.iload_n 1, 1) := by decide +kernel
theorem dX6_tells_27 : decode cX6_tells 27 = .ok (.iload 4, 2) := by decide +kernel
theorem dX6_tells_29 : decode cX6_tells 29 = .ok (.iastore, 1) := by decide +kernel
theorem dX6_tells_30 : decode cX6_tells 30 = .ok (.aload_n 0, 1) := by decide +kernel
theorem dX6_tells_31 : decode cX6_tells 31 = .ok (.iload_n 1, 1) := by decide +kernel
theorem dX6_tells_32 : decode cX6_tells 32 = .ok (.iconst 1, 1) := by decide +kernel
theorem dX6_tells_33 : decode cX6_tells 33 = .ok (.iadd, 1) := by decide +kernel
theorem dX6_tells_34 : decode cX6_tells 34 = .ok (.putfield 137, 3) := by decide +kernel
theorem dX6_tells_37 : decode cX6_tells 37 = .ok (.return_, 1) := by decide +kernel
set_option maxRecDepth 20000 in
theorem ggX6_window_X6_isState : GoodIn wsX6_window wsX6_isState := goodIn_r _ [10] (by decide +kernel) (by decide +kernel)
set_option maxRecDepth 20000 in
theorem gX6_window_X6_isState : GoodIn wsX6_window (va_wsS RX6 109 yX6_isState wsX6_isState) := goodIn_app (goodIn_of _ (by decide +kernel)) ggX6_window_X6_isState
set_option maxRecDepth 20000 in
theorem ggX6_window_X6_tells : GoodIn wsX6_window wsX6_tells := goodIn_r _ [14, 15, 16, 17, 2, 18, 19, 20, 21, 22, 23, 24, 25, 26, 27, 28, 29, 30, 31, 32, 33, 34, 35, 36, 37, 38, 39, 40, 41, 42] (by decide +kernel) (by decide +kernel)
set_option maxRecDepth 20000 in
theorem gX6_window_X6_tells : GoodIn wsX6_window (wsV RX6 140 RX6 yX6_tells wsX6_tells) := goodIn_app (goodIn_of _ (by decide +kernel)) ggX6_window_X6_tells
theorem dX6_window_0 : decode cX6_window 0 = .ok (.aload_n 0, 1) := by decide +kernel
theorem dX6_window_1 : decode cX6_window 1 = .ok (.getfield 105, 3) := by decide +kernel
theorem dX6_window_4 : decode cX6_window 4 = .ok (.ifCond .eq 6, 3) := by decide +kernel
theorem dX6_window_7 : decode cX6_window 7 = .ok (.bipush (-2), 2) := by decide +kernel
theorem dX6_window_9 : decode cX6_window 9 = .ok (.ireturn, 1) := by decide +kernel
theorem dX6_window_10 : decode cX6_window 10 = .ok (.iload_n 1, 1) := by decide +kernel
theorem dX6_window_11 : decode cX6_window 11 = .ok (.invokestatic 109, 3) := by decide +kernel
theorem dX6_window_14 : decode cX6_window 14 = .ok (.ifCond .ne 5, 3) := by decide +kernel
theorem dX6_window_17 : decode cX6_window 17 = .ok (.iconst (-1), 1) := by decide +kernel
theorem dX6_window_18 : decode cX6_window 18 = .ok (.ireturn, 1) := by decide +kernel
theorem dX6_window_19 : decode cX6_window 19 = .ok (.aload_n 0, 1) := by decide +kernel
theorem dX6_window_20 : decode cX6_window 20 = .ok (.iconst 0, 1) := by decide +kernel
theorem dX6_window_21 : decode cX6_window 21 = .ok (.putfield 137, 3) := by decide +kernel
theorem dX6_window_24 : decode cX6_window 24 = .ok (.iconst 0, 1) := by decide +kernel
theorem dX6_window_25 : decode cX6_window 25 = .ok (.istore 6, 2) := by decide +kernel
theorem dX6_window_27 : decode cX6_window 27 = .ok (.iconst 0, 1) := by decide +kernel
theorem dX6_window_28 : decode cX6_window 28 = .ok (.istore 7, 2) := by decide +kernel
theorem dX6_window_30 : decode cX6_window 30 = .ok (.iload 7, 2) := by decide +kernel
theorem dX6_window_32 : decode cX6_window 32 = .ok (.aload_n 0, 1) := by decide +kernel
theorem dX6_window_33 : decode cX6_window 33 = .ok (.getfield 7, 3) := by decide +kernel
theorem dX6_window_36 : decode cX6_window 36 = .ok (.iload_n 1, 1) := by decide +kernel
theorem dX6_window_37 : decode cX6_window 37 = .ok (.iaload, 1) := by decide +kernel
theorem dX6_window_38 : decode cX6_window 38 = .ok (.if_icmp .ge 101, 3) := by decide +kernel
theorem dX6_window_41 : decode cX6_window 41 = .ok (.sipush 3300, 3) := by decide +kernel
theorem dX6_window_44 : decode cX6_window 44 = .ok (.iload_n 1, 1) := by decide +kernel
theorem dX6_window_45 : decode cX6_window 45 = .ok (.imul, 1) := by decide +kernel
theorem dX6_window_46 : decode cX6_window 46 = .ok (.iload 7, 2) := by decide +kernel
theorem dX6_window_48 : decode cX6_window 48 = .ok (.iadd, 1) := by decide +kernel
theorem dX6_window_49 : decode cX6_window 49 = .ok (.istore 8, 2) := by decide +kernel
theorem dX6_window_51 : decode cX6_window 51 = .ok (.aload_n 0, 1) := by decide +kernel
theorem dX6_window_52 : decode cX6_window 52 = .ok (.getfield 13, 3) := by decide +kernel
theorem dX6_window_55 : decode cX6_window 55 = .ok (.iload 8, 2) := by decide +kernel
theorem dX6_window_57 : decode cX6_window 57 = .ok (.iaload, 1) := by decide +kernel
theorem dX6_window_58 : decode cX6_window 58 = .ok (.iload_n 2, 1) := by decide +kernel
theorem dX6_window_59 : decode cX6_window 59 = .ok (.if_icmp .lt 74, 3) := by decide +kernel
theorem dX6_window_62 : decode cX6_window 62 = .ok (.aload_n 0, 1) := by decide +kernel
theorem dX6_window_63 : decode cX6_window 63 = .ok (.getfield 13, 3) := by decide +kernel
theorem dX6_window_66 : decode cX6_window 66 = .ok (.iload 8, 2) := by decide +kernel
theorem dX6_window_68 : decode cX6_window 68 = .ok (.iaload, 1) := by decide +kernel
theorem dX6_window_69 : decode cX6_window 69 = .ok (.iload 4, 2) := by decide +kernel
theorem dX6_window_71 : decode cX6_window 71 = .ok (.if_icmp .gt 62, 3) := by decide +kernel
theorem dX6_window_74 : decode cX6_window 74 = .ok (.aload_n 0, 1) := by decide +kernel
theorem dX6_window_75 : decode cX6_window 75 = .ok (.getfield 16, 3) := by decide +kernel
theorem dX6_window_78 : decode cX6_window 78 = .ok (.iload 8, 2) := by decide +kernel
theorem dX6_window_80 : decode cX6_window 80 = .ok (.iaload, 1) := by decide +kernel
theorem dX6_window_81 : decode cX6_window 81 = .ok (.iload_n 3, 1) := by decide +kernel
theorem dX6_window_82 : decode cX6_window 82 = .ok (.if_icmp .lt 51, 3) := by decide +kernel
theorem dX6_window_85 : decode cX6_window 85 = .ok (.aload_n 0, 1) := by decide +kernel
theorem dX6_window_86 : decode cX6_window 86 = .ok (.getfield 16, 3) := by decide +kernel
theorem dX6_window_89 : decode cX6_window 89 = .ok (.iload 8, 2) := by decide +kernel
theorem dX6_window_91 : decode cX6_window 91 = .ok (.iaload, 1) := by decide +kernel
theorem dX6_window_92 : decode cX6_window 92 = .ok (.iload 5, 2) := by decide +kernel
theorem dX6_window_94 : decode cX6_window 94 = .ok (.if_icmp .le 6, 3) := by decide +kernel
theorem dX6_window_97 : decode cX6_window 97 = .ok (.goto 36, 3) := by decide +kernel
theorem dX6_window_100 : decode cX6_window 100 = .ok (.aload_n 0, 1) := by decide +kernel
theorem dX6_window_101 : decode cX6_window 101 = .ok (.iload 6, 2) := by decide +kernel
theorem dX6_window_103 : decode cX6_window 103 = .ok (.aload_n 0, 1) := by decide +kernel
theorem dX6_window_104 : decode cX6_window 104 = .ok (.getfield 13, 3) := by decide +kernel
theorem dX6_window_107 : decode cX6_window 107 = .ok (.iload 8, 2) := by decide +kernel
theorem dX6_window_109 : decode cX6_window 109 = .ok (.iaload, 1) := by decide +kernel
theorem dX6_window_110 : decode cX6_window 110 = .ok (.aload_n 0, 1) := by decide +kernel
theorem dX6_window_111 : decode cX6_window 111 = .ok (.getfield 16, 3) := by decide +kernel
theorem dX6_window_114 : decode cX6_window 114 = .ok (.iload 8, 2) := by decide +kernel
theorem dX6_window_116 : decode cX6_window 116 = .ok (.iaload, 1) := by decide +kernel
theorem dX6_window_117 : decode cX6_window 117 = .ok (.aload_n 0, 1) := by decide +kernel
theorem dX6_window_118 : decode cX6_window 118 = .ok (.getfield 19, 3) := by decide +kernel
theorem dX6_window_121 : decode cX6_window 121 = .ok (.iload 8, 2) := by decide +kernel
theorem dX6_window_123 : decode cX6_window 123 = .ok (.iaload, 1) := by decide +kernel
theorem dX6_window_124 : decode cX6_window 124 = .ok (.invokevirtual 140, 3) := by decide +kernel
theorem dX6_window_127 : decode cX6_window 127 = .ok (.iload 6, 2) := by decide +kernel
theorem dX6_window_129 : decode cX6_window 129 = .ok (.iconst 1, 1) := by decide +kernel
theorem dX6_window_130 : decode cX6_window 130 = .ok (.iadd, 1) := by decide +kernel
theorem dX6_window_131 : decode cX6_window 131 = .ok (.istore 6, 2) := by decide +kernel
theorem dX6_window_133 : decode cX6_window 133 = .ok (.iinc 7 1, 3) := by decide +kernel
theorem dX6_window_136 : decode cX6_window 136 = .ok (.goto (-106), 3) := by decide +kernel
theorem dX6_window_139 : decode cX6_window 139 = .ok (.iload 6, 2) := by decide +kernel
theorem dX6_window_141 : decode cX6_window 141 = .ok (.ireturn, 1) := by decide +kernel
set_option maxRecDepth 20000 in
theorem ggX6_sum_X6_isState : GoodIn wsX6_sum wsX6_isState := goodIn_r _ [10] (by decide +kernel) (by decide +kernel)
set_option maxRecDepth 20000 in
theorem gX6_sum_X6_isState : GoodIn wsX6_sum (va_wsS RX6 109 yX6_isState wsX6_isState) := goodIn_app (goodIn_of _ (by decide +kernel)) ggX6_sum_X6_isState
theorem dX6_sum_0 : decode cX6_sum 0 = .ok (.aload_n 0, 1) := by decide +kernel
theorem dX6_sum_1 : decode cX6_sum 1 = .ok (.getfield 105, 3) := by decide +kernel
theorem dX6_sum_4 : decode cX6_sum 4 = .ok (.ifCond .eq 7, 3) := by decide +kernel
theorem dX6_sum_7 : decode cX6_sum 7 = .ok (.ldc2_w 143, 3) := by decide +kernel
theorem dX6_sum_10 : decode cX6_sum 10 = .ok (.lreturn, 1) := by decide +kernel
theorem dX6_sum_11 : decode cX6_sum 11 = .ok (.lconst 0, 1) := by decide +kernel
theorem dX6_sum_12 : decode cX6_sum 12 = .ok (.lstore 6, 2) := by decide +kernel
theorem dX6_sum_14 : decode cX6_sum 14 = .ok (.iload_n 1, 1) := by decide +kernel
theorem dX6_sum_15 : decode cX6_sum 15 = .ok (.invokestatic 109, 3) := by decide +kernel
theorem dX6_sum_18 : decode cX6_sum 18 = .ok (.ifCond .ne 6, 3) := by decide +kernel
theorem dX6_sum_21 : decode cX6_sum 21 = .ok (.lload 6, 2) := by decide +kernel
theorem dX6_sum_23 : decode cX6_sum 23 = .ok (.lreturn, 1) := by decide +kernel
theorem dX6_sum_24 : decode cX6_sum 24 = .ok (.iconst 0, 1) := by decide +kernel
theorem dX6_sum_25 : decode cX6_sum 25 = .ok (.istore 8, 2) := by decide +kernel
theorem dX6_sum_27 : decode cX6_sum 27 = .ok (.iload 8, 2) := by decide +kernel
theorem dX6_sum_29 : decode cX6_sum 29 = .ok (.aload_n 0, 1) := by decide +kernel
theorem dX6_sum_30 : decode cX6_sum 30 = .ok (.getfield 7, 3) := by decide +kernel
theorem dX6_sum_33 : decode cX6_sum 33 = .ok (.iload_n 1, 1) := by decide +kernel
theorem dX6_sum_34 : decode cX6_sum 34 = .ok (.iaload, 1) := by decide +kernel
theorem dX6_sum_35 : decode cX6_sum 35 = .ok (.if_icmp .ge 78, 3) := by decide +kernel
theorem dX6_sum_38 : decode cX6_sum 38 = .ok (.sipush 3300, 3) := by decide +kernel
theorem dX6_sum_41 : decode cX6_sum 41 = .ok (.iload_n 1, 1) := by decide +kernel
theorem dX6_sum_42 : decode cX6_sum 42 = .ok (.imul, 1) := by decide +kernel
theorem dX6_sum_43 : decode cX6_sum 43 = .ok (.iload 8, 2) := by decide +kernel
theorem dX6_sum_45 : decode cX6_sum 45 = .ok (.iadd, 1) := by decide +kernel
theorem dX6_sum_46 : decode cX6_sum 46 = .ok (.istore 9, 2) := by decide +kernel
theorem dX6_sum_48 : decode cX6_sum 48 = .ok (.aload_n 0, 1) := by decide +kernel
theorem dX6_sum_49 : decode cX6_sum 49 = .ok (.getfield 13, 3) := by decide +kernel
theorem dX6_sum_52 : decode cX6_sum 52 = .ok (.iload 9, 2) := by decide +kernel
theorem dX6_sum_54 : decode cX6_sum 54 = .ok (.iaload, 1) := by decide +kernel
theorem dX6_sum_55 : decode cX6_sum 55 = .ok (.iload_n 2, 1) := by decide +kernel
theorem dX6_sum_56 : decode cX6_sum 56 = .ok (.if_icmp .lt 51, 3) := by decide +kernel
theorem dX6_sum_59 : decode cX6_sum 59 = .ok (.aload_n 0, 1) := by decide +kernel
theorem dX6_sum_60 : decode cX6_sum 60 = .ok (.getfield 13, 3) := by decide +kernel
theorem dX6_sum_63 : decode cX6_sum 63 = .ok (.iload 9, 2) := by decide +kernel
theorem dX6_sum_65 : decode cX6_sum 65 = .ok (.iaload, 1) := by decide +kernel
theorem dX6_sum_66 : decode cX6_sum 66 = .ok (.iload 4, 2) := by decide +kernel
theorem dX6_sum_68 : decode cX6_sum 68 = .ok (.if_icmp .gt 39, 3) := by decide +kernel
theorem dX6_sum_71 : decode cX6_sum 71 = .ok (.aload_n 0, 1) := by decide +kernel
theorem dX6_sum_72 : decode cX6_sum 72 = .ok (.getfield 16, 3) := by decide +kernel
theorem dX6_sum_75 : decode cX6_sum 75 = .ok (.iload 9, 2) := by decide +kernel
theorem dX6_sum_77 : decode cX6_sum 77 = .ok (.iaload, 1) := by decide +kernel
theorem dX6_sum_78 : decode cX6_sum 78 = .ok (.iload_n 3, 1) := by decide +kernel
theorem dX6_sum_79 : decode cX6_sum 79 = .ok (.if_icmp .lt 28, 3) := by decide +kernel
theorem dX6_sum_82 : decode cX6_sum 82 = .ok (.aload_n 0, 1) := by decide +kernel
theorem dX6_sum_83 : decode cX6_sum 83 = .ok (.getfield 16, 3) := by decide +kernel
theorem dX6_sum_86 : decode cX6_sum 86 = .ok (.iload 9, 2) := by decide +kernel
theorem dX6_sum_88 : decode cX6_sum 88 = .ok (.iaload, 1) := by decide +kernel
theorem dX6_sum_89 : decode cX6_sum 89 = .ok (.iload 5, 2) := by decide +kernel
theorem dX6_sum_91 : decode cX6_sum 91 = .ok (.if_icmp .gt 16, 3) := by decide +kernel
theorem dX6_sum_94 : decode cX6_sum 94 = .ok (.lload 6, 2) := by decide +kernel
theorem dX6_sum_96 : decode cX6_sum 96 = .ok (.aload_n 0, 1) := by decide +kernel
theorem dX6_sum_97 : decode cX6_sum 97 = .ok (.getfield 19, 3) := by decide +kernel
theorem dX6_sum_100 : decode cX6_sum 100 = .ok (.iload 9, 2) := by decide +kernel
theorem dX6_sum_102 : decode cX6_sum 102 = .ok (.iaload, 1) := by decide +kernel
theorem dX6_sum_103 : decode cX6_sum 103 = .ok (.i2l, 1) := by decide +kernel
theorem dX6_sum_104 : decode cX6_sum 104 = .ok (.ladd, 1) := by decide +kernel
theorem dX6_sum_105 : decode cX6_sum 105 = .ok (.lstore 6, 2) := by decide +kernel
theorem dX6_sum_107 : decode cX6_sum 107 = .ok (.iinc 8 1, 3) := by decide +kernel
theorem dX6_sum_110 : decode cX6_sum 110 = .ok (.goto (-83), 3) := by decide +kernel
theorem dX6_sum_113 : decode cX6_sum 113 = .ok (.lload 6, 2) := by decide +kernel
theorem dX6_sum_115 : decode cX6_sum 115 = .ok (.lreturn, 1) := by decide +kernel
set_option maxRecDepth 20000 in
theorem ggX6_nearest_X6_isState : GoodIn wsX6_nearest wsX6_isState := goodIn_r _ [15] (by decide +kernel) (by decide +kernel)
set_option maxRecDepth 20000 in
theorem gX6_nearest_X6_isState : GoodIn wsX6_nearest (va_wsS RX6 109 yX6_isState wsX6_isState) := goodIn_app (goodIn_of _ (by decide +kernel)) ggX6_nearest_X6_isState
theorem dX6_nearest_0 : decode cX6_nearest 0 = .ok (.aload_n 0, 1) := by decide +kernel
theorem dX6_nearest_1 : decode cX6_nearest 1 = .ok (.getfield 105, 3) := by decide +kernel
theorem dX6_nearest_4 : decode cX6_nearest 4 = .ok (.ifCond .eq 6, 3) := by decide +kernel
theorem dX6_nearest_7 : decode cX6_nearest 7 = .ok (.bipush (-2), 2) := by decide +kernel
theorem dX6_nearest_9 : decode cX6_nearest 9 = .ok (.ireturn, 1) := by decide +kernel
theorem dX6_nearest_10 : decode cX6_nearest 10 = .ok (.iload_n 1, 1) := by decide +kernel
theorem dX6_nearest_11 : decode cX6_nearest 11 = .ok (.invokestatic 109, 3) := by decide +kernel
theorem dX6_nearest_14 : decode cX6_nearest 14 = .ok (.ifCond .eq 37, 3) := by decide +kernel
theorem dX6_nearest_17 : decode cX6_nearest 17 = .ok (.iload_n 2, 1) := by decide +kernel
theorem dX6_nearest_18 : decode cX6_nearest 18 = .ok (.ifCond .lt 33, 3) := by decide +kernel
theorem dX6_nearest_21 : decode cX6_nearest 21 = .ok (.iload_n 2, 1) := by decide +kernel
theorem dX6_nearest_22 : decode cX6_nearest 22 = .ok (.ldc 112, 2) := by decide +kernel
theorem dX6_nearest_24 : decode cX6_nearest 24 = .ok (.if_icmp .gt 27, 3) := by decide +kernel
theorem dX6_nearest_27 : decode cX6_nearest 27 = .ok (.iload_n 3, 1) := by decide +kernel
theorem dX6_nearest_28 : decode cX6_nearest 28 = .ok (.ifCond .lt 23, 3) := by decide +kernel
theorem dX6_nearest_31 : decode cX6_nearest 31 = .ok (.iload_n 3, 1) := by decide +kernel
theorem dX6_nearest_32 : decode cX6_nearest 32 = .ok (.ldc 112, 2) := by decide +kernel
theorem dX6_nearest_34 : decode cX6_nearest 34 = .ok (.if_icmp .gt 17, 3) := by decide +kernel
theorem dX6_nearest_37 : decode cX6_nearest 37 = .ok (.iload 4, 2) := by decide +kernel
theorem dX6_nearest_39 : decode cX6_nearest 39 = .ok (.iconst 1, 1) := by decide +kernel
theorem dX6_nearest_40 : decode cX6_nearest 40 = .ok (.if_icmp .lt 11, 3) := by decide +kernel
theorem dX6_nearest_43 : decode cX6_nearest 43 = .ok (.iload 4, 2) := by decide +kernel
theorem dX6_nearest_45 : decode cX6_nearest 45 = .ok (.sipush 150, 3) := by decide +kernel
theorem dX6_nearest_48 : decode cX6_nearest 48 = .ok (.if_icmp .le 5, 3) := by decide +kernel
theorem dX6_nearest_51 : decode cX6_nearest 51 = .ok (.iconst (-1), 1) := by decide +kernel
theorem dX6_nearest_52 : decode cX6_nearest 52 = .ok (.ireturn, 1) := by decide +kernel
theorem dX6_nearest_53 : decode cX6_nearest 53 = .ok (.aload_n 0, 1) := by decide +kernel
theorem dX6_nearest_54 : decode cX6_nearest 54 = .ok (.iconst 0, 1) := by decide +kernel
theorem dX6_nearest_55 : decode cX6_nearest 55 = .ok (.putfield 137, 3) := by decide +kernel
theorem dX6_nearest_58 : decode cX6_nearest 58 = .ok (.iconst 0, 1) := by decide +kernel
theorem dX6_nearest_59 : decode cX6_nearest 59 = .ok (.istore 5, 2) := by decide +kernel
theorem dX6_nearest_61 : decode cX6_nearest 61 = .ok (.iload 5, 2) := by decide +kernel
theorem dX6_nearest_63 : decode cX6_nearest 63 = .ok (.aload_n 0, 1) := by decide +kernel
theorem dX6_nearest_64 : decode cX6_nearest 64 = .ok (.getfield 7, 3) := by decide +kernel
theorem dX6_nearest_67 : decode cX6_nearest 67 = .ok (.iload_n 1, 1) := by decide +kernel
theorem dX6_nearest_68 : decode cX6_nearest 68 = .ok (.iaload, 1) := by decide +kernel
theorem dX6_nearest_69 : decode cX6_nearest 69 = .ok (.if_icmp .ge 252, 3) := by decide +kernel
theorem dX6_nearest_72 : decode cX6_nearest 72 = .ok (.sipush 3300, 3) := by decide +kernel
theorem dX6_nearest_75 : decode cX6_nearest 75 = .ok (.iload_n 1, 1) := by decide +kernel
theorem dX6_nearest_76 : decode cX6_nearest 76 = .ok (.imul, 1) := by decide +kernel
theorem dX6_nearest_77 : decode cX6_nearest 77 = .ok (.iload 5, 2) := by decide +kernel
theorem dX6_nearest_79 : decode cX6_nearest 79 = .ok (.iadd, 1) := by decide +kernel
theorem dX6_nearest_80 : decode cX6_nearest 80 = .ok (.istore 6, 2) := by decide +kernel
theorem dX6_nearest_82 : decode cX6_nearest 82 = .ok (.aload_n 0, 1) := by decide +kernel
theorem dX6_nearest_83 : decode cX6_nearest 83 = .ok (.getfield 13, 3) := by decide +kernel
theorem dX6_nearest_86 : decode cX6_nearest 86 = .ok (.iload 6, 2) := by decide +kernel
theorem dX6_nearest_88 : decode cX6_nearest 88 = .ok (.iaload, 1) := by decide +kernel
theorem dX6_nearest_89 : decode cX6_nearest 89 = .ok (.iload_n 2, 1) := by decide +kernel
theorem dX6_nearest_90 : decode cX6_nearest 90 = .ok (.isub, 1) := by decide +kernel
theorem dX6_nearest_91 : decode cX6_nearest 91 = .ok (.i2l, 1) := by decide +kernel
theorem dX6_nearest_92 : decode cX6_nearest 92 = .ok (.lstore 7, 2) := by decide +kernel
theorem dX6_nearest_94 : decode cX6_nearest 94 = .ok (.aload_n 0, 1) := by decide +kernel
theorem dX6_nearest_95 : decode cX6_nearest 95 = .ok (.getfield 16, 3) := by decide +kernel
theorem dX6_nearest_98 : decode cX6_nearest 98 = .ok (.iload 6, 2) := by decide +kernel
theorem dX6_nearest_100 : decode cX6_nearest 100 = .ok (.iaload, 1) := by decide +kernel
theorem dX6_nearest_101 : decode cX6_nearest 101 = .ok (.iload_n 3, 1) := by decide +kernel
theorem dX6_nearest_102 : decode cX6_nearest 102 = .ok (.isub, 1) := by decide +kernel
theorem dX6_nearest_103 : decode cX6_nearest 103 = .ok (.i2l, 1) := by decide +kernel
theorem dX6_nearest_104 : decode cX6_nearest 104 = .ok (.lstore 9, 2) := by decide +kernel
theorem dX6_nearest_106 : decode cX6_nearest 106 = .ok (.lload 7, 2) := by decide +kernel
theorem dX6_nearest_108 : decode cX6_nearest 108 = .ok (.lload 7, 2) := by decide +kernel
theorem dX6_nearest_110 : decode cX6_nearest 110 = .ok (.lmul, 1) := by decide +kernel
theorem dX6_nearest_111 : decode cX6_nearest 111 = .ok (.lload 9, 2) := by decide +kernel
theorem dX6_nearest_113 : decode cX6_nearest 113 = .ok (.lload 9, 2) := by decide +kernel
theorem dX6_nearest_115 : decode cX6_nearest 115 = .ok (.lmul, 1) := by decide +kernel
theorem dX6_nearest_116 : decode cX6_nearest 116 = .ok (.ladd, 1) := by decide +kernel
theorem dX6_nearest_117 : decode cX6_nearest 117 = .ok (.lstore 11, 2) := by decide +kernel
theorem dX6_nearest_119 : decode cX6_nearest 119 = .ok (.aload_n 0, 1) := by decide +kernel
theorem dX6_nearest_120 : decode cX6_nearest 120 = .ok (.getfield 137, 3) := by decide +kernel
theorem dX6_nearest_123 : decode cX6_nearest 123 = .ok (.istore 13, 2) := by decide +kernel
theorem dX6_nearest_125 : decode cX6_nearest 125 = .ok (.aload_n 0, 1) := by decide +kernel
theorem dX6_nearest_126 : decode cX6_nearest 126 = .ok (.getfield 137, 3) := by decide +kernel
theorem dX6_nearest_129 : decode cX6_nearest 129 = .ok (.iload 4, 2) := by decide +kernel
theorem dX6_nearest_131 : decode cX6_nearest 131 = .ok (.if_icmp .ne 30, 3) := by decide +kernel
theorem dX6_nearest_134 : decode cX6_nearest 134 = .ok (.aload_n 0, 1) := by decide +kernel
theorem dX6_nearest_135 : decode cX6_nearest 135 = .ok (.getfield 48, 3) := by decide +kernel
theorem dX6_nearest_138 : decode cX6_nearest 138 = .ok (.iload 4, 2) := by decide +kernel
theorem dX6_nearest_140 : decode cX6_nearest 140 = .ok (.iconst 1, 1) := by decide +kernel
theorem dX6_nearest_141 : decode cX6_nearest 141 = .ok (.isub, 1) := by decide +kernel
theorem dX6_nearest_142 : decode cX6_nearest 142 = .ok (.laload, 1) := by decide +kernel
theorem dX6_nearest_143 : decode cX6_nearest 143 = .ok (.lload 11, 2) := by decide +kernel
theorem dX6_nearest_145 : decode cX6_nearest 145 = .ok (.lcmp, 1) := by decide +kernel
theorem dX6_nearest_146 : decode cX6_nearest 146 = .ok (.ifCond .gt 6, 3) := by decide +kernel
theorem dX6_nearest_149 : decode cX6_nearest 149 = .ok (.goto 166, 3) := by decide +kernel
theorem dX6_nearest_152 : decode cX6_nearest 152 = .ok (.iload 4, 2) := by decide +kernel
theorem dX6_nearest_154 : decode cX6_nearest 154 = .ok (.iconst 1, 1) := by decide +kernel
theorem dX6_nearest_155 : decode cX6_nearest 155 = .ok (.isub, 1) := by decide +kernel
theorem dX6_nearest_156 : decode cX6_nearest 156 = .ok (.istore 13, 2) := by decide +kernel
theorem dX6_nearest_158 : decode cX6_nearest 158 = .ok (.goto 13, 3) := by decide +kernel
theorem dX6_nearest_161 : decode cX6_nearest 161 = .ok (.aload_n 0, 1) := by decide +kernel
theorem dX6_nearest_162 : decode cX6_nearest 162 = .ok (.aload_n 0, 1) := by decide +kernel
theorem dX6_nearest_163 : decode cX6_nearest 163 = .ok (.getfield 137, 3) := by decide +kernel
theorem dX6_nearest_166 : decode cX6_nearest 166 = .ok (.iconst 1, 1) := by decide +kernel
theorem dX6_nearest_167 : decode cX6_nearest 167 = .ok (.iadd, 1) := by decide +kernel
theorem dX6_nearest_168 : decode cX6_nearest 168 = .ok (.putfield 137, 3) := by decide +kernel
theorem dX6_nearest_171 : decode cX6_nearest 171 = .ok (.iload 13, 2) := by decide +kernel
theorem dX6_nearest_173 : decode cX6_nearest 173 = .ok (.ifCond .le 91, 3) := by decide +kernel
theorem dX6_nearest_176 : decode cX6_nearest 176 = .ok (.aload_n 0, 1) := by decide +kernel
theorem dX6_nearest_177 : decode cX6_nearest 177 = .ok (.getfield 48, 3) := by decide +kernel
theorem dX6_nearest_180 : decode cX6_nearest 180 = .ok (.iload 13, 2) := by decide +kernel
theorem dX6_nearest_182 : decode cX6_nearest 182 = .ok (.iconst 1, 1) := by decide +kernel
theorem dX6_nearest_183 : decode cX6_nearest 183 = .ok (.isub, 1) := by decide +kernel
theorem dX6_nearest_184 : decode cX6_nearest 184 = .ok (.laload, 1) := by decide +kernel
theorem dX6_nearest_185 : decode cX6_nearest 185 = .ok (.lload 11, 2) := by decide +kernel
theorem dX6_nearest_187 : decode cX6_nearest 187 = .ok (.lcmp, 1) := by decide +kernel
theorem dX6_nearest_188 : decode cX6_nearest 188 = .ok (.ifCond .le 76, 3) := by decide +kernel
theorem dX6_nearest_191 : decode cX6_nearest 191 = .ok (.aload_n 0, 1) := by decide +kernel
theorem dX6_nearest_192 : decode cX6_nearest 192 = .ok (.getfield 48, 3) := by decide +kernel
theorem dX6_nearest_195 : decode cX6_nearest 195 = .ok (.iload 13, 2) := by decide +kernel
theorem dX6_nearest_197 : decode cX6_nearest 197 = .ok (.aload_n 0, 1) := by decide +kernel
theorem dX6_nearest_198 : decode cX6_nearest 198 = .ok (.getfield 48, 3) := by decide +kernel
theorem dX6_nearest_201 : decode cX6_nearest 201 = .ok (.iload 13, 2) := by decide +kernel
theorem dX6_nearest_203 : decode cX6_nearest 203 = .ok (.iconst 1, 1) := by decide +kernel
theorem dX6_nearest_204 : decode cX6_nearest 204 = .ok (.isub, 1) := by decide +kernel
theorem dX6_nearest_205 : decode cX6_nearest 205 = .ok (.laload, 1) := by decide +kernel
theorem dX6_nearest_206 : decode cX6_nearest 206 = .ok (.lastore, 1) := by decide +kernel
theorem dX6_nearest_207 : decode cX6_nearest 207 = .ok (.aload_n 0, 1) := by decide +kernel
theorem dX6_nearest_208 : decode cX6_nearest 208 = .ok (.getfield 39, 3) := by decide +kernel
theorem dX6_nearest_211 : decode cX6_nearest 211 = .ok (.iload 13, 2) := by decide +kernel
theorem dX6_nearest_213 : decode cX6_nearest 213 = .ok (.aload_n 0, 1) := by decide +kernel
theorem dX6_nearest_214 : decode cX6_nearest 214 = .ok (.getfield 39, 3) := by decide +kernel
theorem dX6_nearest_217 : decode cX6_nearest 217 = .ok (.iload 13, 2) := by decide +kernel
theorem dX6_nearest_219 : decode cX6_nearest 219 = .ok (.iconst 1, 1) := by decide +kernel
theorem dX6_nearest_220 : decode cX6_nearest 220 = .ok (.isub, 1) := by decide +kernel
theorem dX6_nearest_221 : decode cX6_nearest 221 = .ok (.iaload, 1) := by decide +kernel
theorem dX6_nearest_222 : decode cX6_nearest 222 = .ok (.iastore, 1) := by decide +kernel
theorem dX6_nearest_223 : decode cX6_nearest 223 = .ok (.aload_n 0, 1) := by decide +kernel
theorem dX6_nearest_224 : decode cX6_nearest 224 = .ok (.getfield 42, 3) := by decide +kernel
theorem dX6_nearest_227 : decode cX6_nearest 227 = .ok (.iload 13, 2) := by decide +kernel
theorem dX6_nearest_229 : decode cX6_nearest 229 = .ok (.aload_n 0, 1) := by decide +kernel
theorem dX6_nearest_230 : decode cX6_nearest 230 = .ok (.getfield 42, 3) := by decide +kernel
theorem dX6_nearest_233 : decode cX6_nearest 233 = .ok (.iload 13, 2) := by decide +kernel
theorem dX6_nearest_235 : decode cX6_nearest 235 = .ok (.iconst 1, 1) := by decide +kernel
theorem dX6_nearest_236 : decode cX6_nearest 236 = .ok (.isub, 1) := by decide +kernel
theorem dX6_nearest_237 : decode cX6_nearest 237 = .ok (.iaload, 1) := by decide +kernel
theorem dX6_nearest_238 : decode cX6_nearest 238 = .ok (.iastore, 1) := by decide +kernel
theorem dX6_nearest_239 : decode cX6_nearest 239 = .ok (.aload_n 0, 1) := by decide +kernel
theorem dX6_nearest_240 : decode cX6_nearest 240 = .ok (.getfield 45, 3) := by decide +kernel
theorem dX6_nearest_243 : decode cX6_nearest 243 = .ok (.iload 13, 2) := by decide +kernel
theorem dX6_nearest_245 : decode cX6_nearest 245 = .ok (.aload_n 0, 1) := by decide +kernel
theorem dX6_nearest_246 : decode cX6_nearest 246 = .ok (.getfield 45, 3) := by decide +kernel
theorem dX6_nearest_249 : decode cX6_nearest 249 = .ok (.iload 13, 2) := by decide +kernel
theorem dX6_nearest_251 : decode cX6_nearest 251 = .ok (.iconst 1, 1) := by decide +kernel
theorem dX6_nearest_252 : decode cX6_nearest 252 = .ok (.isub, 1) := by decide +kernel
theorem dX6_nearest_253 : decode cX6_nearest 253 = .ok (.iaload, 1) := by decide +kernel
theorem dX6_nearest_254 : decode cX6_nearest 254 = .ok (.iastore, 1) := by decide +kernel
theorem dX6_nearest_255 : decode cX6_nearest 255 = .ok (.iload 13, 2) := by decide +kernel
theorem dX6_nearest_257 : decode cX6_nearest 257 = .ok (.iconst 1, 1) := by decide +kernel
theorem dX6_nearest_258 : decode cX6_nearest 258 = .ok (.isub, 1) := by decide +kernel
theorem dX6_nearest_259 : decode cX6_nearest 259 = .ok (.istore 13, 2) := by decide +kernel
theorem dX6_nearest_261 : decode cX6_nearest 261 = .ok (.goto (-90), 3) := by decide +kernel
theorem dX6_nearest_264 : decode cX6_nearest 264 = .ok (.aload_n 0, 1) := by decide +kernel
theorem dX6_nearest_265 : decode cX6_nearest 265 = .ok (.getfield 48, 3) := by decide +kernel
theorem dX6_nearest_268 : decode cX6_nearest 268 = .ok (.iload 13, 2) := by decide +kernel
theorem dX6_nearest_270 : decode cX6_nearest 270 = .ok (.lload 11, 2) := by decide +kernel
theorem dX6_nearest_272 : decode cX6_nearest 272 = .ok (.lastore, 1) := by decide +kernel
theorem dX6_nearest_273 : decode cX6_nearest 273 = .ok (.aload_n 0, 1) := by decide +kernel
theorem dX6_nearest_274 : decode cX6_nearest 274 = .ok (.getfield 39, 3) := by decide +kernel
theorem dX6_nearest_277 : decode cX6_nearest 277 = .ok (.iload 13, 2) := by decide +kernel
theorem dX6_nearest_279 : decode cX6_nearest 279 = .ok (.aload_n 0, 1) := by decide +kernel
theorem dX6_nearest_280 : decode cX6_nearest 280 = .ok (.getfield 13, 3) := by decide +kernel
theorem dX6_nearest_283 : decode cX6_nearest 283 = .ok (.iload 6, 2) := by decide +kernel
theorem dX6_nearest_285 : decode cX6_nearest 285 = .ok (.iaload, 1) := by decide +kernel
theorem dX6_nearest_286 : decode cX6_nearest 286 = .ok (.iastore, 1) := by decide +kernel
theorem dX6_nearest_287 : decode cX6_nearest 287 = .ok (.aload_n 0, 1) := by decide +kernel
theorem dX6_nearest_288 : decode cX6_nearest 288 = .ok (.getfield 42, 3) := by decide +kernel
theorem dX6_nearest_291 : decode cX6_nearest 291 = .ok (.iload 13, 2) := by decide +kernel
theorem dX6_nearest_293 : decode cX6_nearest 293 = .ok (.aload_n 0, 1) := by decide +kernel
theorem dX6_nearest_294 : decode cX6_nearest 294 = .ok (.getfield 16, 3) := by decide +kernel
theorem dX6_nearest_297 : decode cX6_nearest 297 = .ok (.iload 6, 2) := by decide +kernel
theorem dX6_nearest_299 : decode cX6_nearest 299 = .ok (.iaload, 1) := by decide +kernel
theorem dX6_nearest_300 : decode cX6_nearest 300 = .ok (.iastore, 1) := by decide +kernel
theorem dX6_nearest_301 : decode cX6_nearest 301 = .ok (.aload_n 0, 1) := by decide +kernel
theorem dX6_nearest_302 : decode cX6_nearest 302 = .ok (.getfield 45, 3) := by decide +kernel
theorem dX6_nearest_305 : decode cX6_nearest 305 = .ok (.iload 13, 2) := by decide +kernel
theorem dX6_nearest_307 : decode cX6_nearest 307 = .ok (.aload_n 0, 1) := by decide +kernel
theorem dX6_nearest_308 : decode cX6_nearest 308 = .ok (.getfield 19, 3) := by decide +kernel
theorem dX6_nearest_311 : decode cX6_nearest 311 = .ok (.iload 6, 2) := by decide +kernel
theorem dX6_nearest_313 : decode cX6_nearest 313 = .ok (.iaload, 1) := by decide +kernel
theorem dX6_nearest_314 : decode cX6_nearest 314 = .ok (.iastore, 1) := by decide +kernel
theorem dX6_nearest_315 : decode cX6_nearest 315 = .ok (.iinc 5 1, 3) := by decide +kernel
theorem dX6_nearest_318 : decode cX6_nearest 318 = .ok (.goto (-257), 3) := by decide +kernel
theorem dX6_nearest_321 : decode cX6_nearest 321 = .ok (.aload_n 0, 1) := by decide +kernel
theorem dX6_nearest_322 : decode cX6_nearest 322 = .ok (.getfield 137, 3) := by decide +kernel
theorem dX6_nearest_325 : decode cX6_nearest 325 = .ok (.ireturn, 1) := by decide +kernel
set_option maxRecDepth 20000 in
theorem ggX6_differs_X6_tells : GoodIn wsX6_differs wsX6_tells := goodIn_r _ [11, 12, 13, 14, 2, 15, 16, 17, 18, 19, 20, 21, 22, 23, 24, 25, 26, 27, 28, 29, 30, 31, 32, 33, 34, 35, 36, 37, 38, 39] (by decide +kernel) (by decide +kernel)
set_option maxRecDepth 20000 in
theorem gX6_differs_X6_tells : GoodIn wsX6_differs (wsV RX6 140 RX6 yX6_tells wsX6_tells) := goodIn_app (goodIn_of _ (by decide +kernel)) ggX6_differs_X6_tells
theorem dX6_differs_0 : decode cX6_differs 0 = .ok (.aload_n 0, 1) := by decide +kernel
theorem dX6_differs_1 : decode cX6_differs 1 = .ok (.getfield 105, 3) := by decide +kernel
theorem dX6_differs_4 : decode cX6_differs 4 = .ok (.ifCond .eq 6, 3) := by decide +kernel
theorem dX6_differs_7 : decode cX6_differs 7 = .ok (.bipush (-2), 2) := by decide +kernel
theorem dX6_differs_9 : decode cX6_differs 9 = .ok (.ireturn, 1) := by decide +kernel
theorem dX6_differs_10 : decode cX6_differs 10 = .ok (.aload_n 0, 1) := by decide +kernel
theorem dX6_differs_11 : decode cX6_differs 11 = .ok (.iconst 0, 1) := by decide +kernel
theorem dX6_differs_12 : decode cX6_differs 12 = .ok (.putfield 137, 3) := by decide +kernel
theorem dX6_differs_15 : decode cX6_differs 15 = .ok (.iconst 0, 1) := by decide +kernel
theorem dX6_differs_16 : decode cX6_differs 16 = .ok (.istore_n 1, 1) := by decide +kernel
theorem dX6_differs_17 : decode cX6_differs 17 = .ok (.iconst 0, 1) := by decide +kernel
theorem dX6_differs_18 : decode cX6_differs 18 = .ok (.istore_n 2, 1) := by decide +kernel
theorem dX6_differs_19 : decode cX6_differs 19 = .ok (.iconst 0, 1) := by decide +kernel
theorem dX6_differs_20 : decode cX6_differs 20 = .ok (.istore_n 3, 1) := by decide +kernel
theorem dX6_differs_21 : decode cX6_differs 21 = .ok (.iload_n 2, 1) := by decide +kernel
theorem dX6_differs_22 : decode cX6_differs 22 = .ok (.aload_n 0, 1) := by decide +kernel
theorem dX6_differs_23 : decode cX6_differs 23 = .ok (.getfield 7, 3) := by decide +kernel
theorem dX6_differs_26 : decode cX6_differs 26 = .ok (.iconst 0, 1) := by decide +kernel
theorem dX6_differs_27 : decode cX6_differs 27 = .ok (.iaload, 1) := by decide +kernel
theorem dX6_differs_28 : decode cX6_differs 28 = .ok (.if_icmp .lt 13, 3) := by decide +kernel
theorem dX6_differs_31 : decode cX6_differs 31 = .ok (.iload_n 3, 1) := by decide +kernel
theorem dX6_differs_32 : decode cX6_differs 32 = .ok (.aload_n 0, 1) := by decide +kernel
theorem dX6_differs_33 : decode cX6_differs 33 = .ok (.getfield 7, 3) := by decide +kernel
theorem dX6_differs_36 : decode cX6_differs 36 = .ok (.iconst 1, 1) := by decide +kernel
theorem dX6_differs_37 : decode cX6_differs 37 = .ok (.iaload, 1) := by decide +kernel
theorem dX6_differs_38 : decode cX6_differs 38 = .ok (.if_icmp .ge 231, 3) := by decide +kernel
theorem dX6_differs_41 : decode cX6_differs 41 = .ok (.iload_n 2, 1) := by decide +kernel
theorem dX6_differs_42 : decode cX6_differs 42 = .ok (.istore 4, 2) := by decide +kernel
theorem dX6_differs_44 : decode cX6_differs 44 = .ok (.sipush 3300, 3) := by decide +kernel
theorem dX6_differs_47 : decode cX6_differs 47 = .ok (.iload_n 3, 1) := by decide +kernel
theorem dX6_differs_48 : decode cX6_differs 48 = .ok (.iadd, 1) := by decide +kernel
theorem dX6_differs_49 : decode cX6_differs 49 = .ok (.istore 5, 2) := by decide +kernel
theorem dX6_differs_51 : decode cX6_differs 51 = .ok (.iload_n 2, 1) := by decide +kernel
theorem dX6_differs_52 : decode cX6_differs 52 = .ok (.aload_n 0, 1) := by decide +kernel
theorem dX6_differs_53 : decode cX6_differs 53 = .ok (.getfield 7, 3) := by decide +kernel
theorem dX6_differs_56 : decode cX6_differs 56 = .ok (.iconst 0, 1) := by decide +kernel
theorem dX6_differs_57 : decode cX6_differs 57 = .ok (.iaload, 1) := by decide +kernel
theorem dX6_differs_58 : decode cX6_differs 58 = .ok (.if_icmp .ne 7, 3) := by decide +kernel
theorem dX6_differs_61 : decode cX6_differs 61 = .ok (.iconst 1, 1) := by decide +kernel
theorem dX6_differs_62 : decode cX6_differs 62 = .ok (.goto 67, 3) := by decide +kernel
theorem dX6_differs_65 : decode cX6_differs 65 = .ok (.iload_n 3, 1) := by decide +kernel
theorem dX6_differs_66 : decode cX6_differs 66 = .ok (.aload_n 0, 1) := by decide +kernel
theorem dX6_differs_67 : decode cX6_differs 67 = .ok (.getfield 7, 3) := by decide +kernel
theorem dX6_differs_70 : decode cX6_differs 70 = .ok (.iconst 1, 1) := by decide +kernel
theorem dX6_differs_71 : decode cX6_differs 71 = .ok (.iaload, 1) := by decide +kernel
theorem dX6_differs_72 : decode cX6_differs 72 = .ok (.if_icmp .ne 7, 3) := by decide +kernel
theorem dX6_differs_75 : decode cX6_differs 75 = .ok (.iconst (-1), 1) := by decide +kernel
theorem dX6_differs_76 : decode cX6_differs 76 = .ok (.goto 53, 3) := by decide +kernel
theorem dX6_differs_79 : decode cX6_differs 79 = .ok (.aload_n 0, 1) := by decide +kernel
theorem dX6_differs_80 : decode cX6_differs 80 = .ok (.getfield 13, 3) := by decide +kernel
theorem dX6_differs_83 : decode cX6_differs 83 = .ok (.iload 4, 2) := by decide +kernel
theorem dX6_differs_85 : decode cX6_differs 85 = .ok (.iaload, 1) := by decide +kernel
theorem dX6_differs_86 : decode cX6_differs 86 = .ok (.aload_n 0, 1) := by decide +kernel
theorem dX6_differs_87 : decode cX6_differs 87 = .ok (.getfield 13, 3) := by decide +kernel
theorem dX6_differs_90 : decode cX6_differs 90 = .ok (.iload 5, 2) := by decide +kernel
theorem dX6_differs_92 : decode cX6_differs 92 = .ok (.iaload, 1) := by decide +kernel
theorem dX6_differs_93 : decode cX6_differs 93 = .ok (.if_icmp .eq 21, 3) := by decide +kernel
theorem dX6_differs_96 : decode cX6_differs 96 = .ok (.aload_n 0, 1) := by decide +kernel
theorem dX6_differs_97 : decode cX6_differs 97 = .ok (.getfield 13, 3) := by decide +kernel
theorem dX6_differs_100 : decode cX6_differs 100 = .ok (.iload 4, 2) := by decide +kernel
theorem dX6_differs_102 : decode cX6_differs 102 = .ok (.iaload, 1) := by decide +kernel
theorem dX6_differs_103 : decode cX6_differs 103 = .ok (.aload_n 0, 1) := by decide +kernel
theorem dX6_differs_104 : decode cX6_differs 104 = .ok (.getfield 13, 3) := by decide +kernel
theorem dX6_differs_107 : decode cX6_differs 107 = .ok (.iload 5, 2) := by decide +kernel
theorem dX6_differs_109 : decode cX6_differs 109 = .ok (.iaload, 1) := by decide +kernel
theorem dX6_differs_110 : decode cX6_differs 110 = .ok (.isub, 1) := by decide +kernel
theorem dX6_differs_111 : decode cX6_differs 111 = .ok (.goto 18, 3) := by decide +kernel
theorem dX6_differs_114 : decode cX6_differs 114 = .ok (.aload_n 0, 1) := by decide +kernel
theorem dX6_differs_115 : decode cX6_differs 115 = .ok (.getfield 16, 3) := by decide +kernel
theorem dX6_differs_118 : decode cX6_differs 118 = .ok (.iload 4, 2) := by decide +kernel
theorem dX6_differs_120 : decode cX6_differs 120 = .ok (.iaload, 1) := by decide +kernel
theorem dX6_differs_121 : decode cX6_differs 121 = .ok (.aload_n 0, 1) := by decide +kernel
theorem dX6_differs_122 : decode cX6_differs 122 = .ok (.getfield 16, 3) := by decide +kernel
theorem dX6_differs_125 : decode cX6_differs 125 = .ok (.iload 5, 2) := by decide +kernel
theorem dX6_differs_127 : decode cX6_differs 127 = .ok (.iaload, 1) := by decide +kernel
theorem dX6_differs_128 : decode cX6_differs 128 = .ok (.isub, 1) := by decide +kernel
theorem dX6_differs_129 : decode cX6_differs 129 = .ok (.istore 6, 2) := by decide +kernel
theorem dX6_differs_131 : decode cX6_differs 131 = .ok (.iload 6, 2) := by decide +kernel
theorem dX6_differs_133 : decode cX6_differs 133 = .ok (.ifCond .ge 36, 3) := by decide +kernel
theorem dX6_differs_136 : decode cX6_differs 136 = .ok (.aload_n 0, 1) := by decide +kernel
theorem dX6_differs_137 : decode cX6_differs 137 = .ok (.iload_n 1, 1) := by decide +kernel
theorem dX6_differs_138 : decode cX6_differs 138 = .ok (.aload_n 0, 1) := by decide +kernel
theorem dX6_differs_139 : decode cX6_differs 139 = .ok (.getfield 13, 3) := by decide +kernel
theorem dX6_differs_142 : decode cX6_differs 142 = .ok (.iload 4, 2) := by decide +kernel
theorem dX6_differs_144 : decode cX6_differs 144 = .ok (.iaload, 1) := by decide +kernel
theorem dX6_differs_145 : decode cX6_differs 145 = .ok (.aload_n 0, 1) := by decide +kernel
theorem dX6_differs_146 : decode cX6_differs 146 = .ok (.getfield 16, 3) := by decide +kernel
theorem dX6_differs_149 : decode cX6_differs 149 = .ok (.iload 4, 2) := by decide +kernel
theorem dX6_differs_151 : decode cX6_differs 151 = .ok (.iaload, 1) := by decide +kernel
theorem dX6_differs_152 : decode cX6_differs 152 = .ok (.aload_n 0, 1) := by decide +kernel
theorem dX6_differs_153 : decode cX6_differs 153 = .ok (.getfield 19, 3) := by decide +kernel
theorem dX6_differs_156 : decode cX6_differs 156 = .ok (.iload 4, 2) := by decide +kernel
theorem dX6_differs_158 : decode cX6_differs 158 = .ok (.iaload, 1) := by decide +kernel
theorem dX6_differs_159 : decode cX6_differs 159 = .ok (.invokevirtual 140, 3) := by decide +kernel
theorem dX6_differs_162 : decode cX6_differs 162 = .ok (.iload_n 1, 1) := by decide +kernel
theorem dX6_differs_163 : decode cX6_differs 163 = .ok (.iconst 1, 1) := by decide +kernel
theorem dX6_differs_164 : decode cX6_differs 164 = .ok (.iadd, 1) := by decide +kernel
theorem dX6_differs_165 : decode cX6_differs 165 = .ok (.istore_n 1, 1) := by decide +kernel
theorem dX6_differs_166 : decode cX6_differs 166 = .ok (.goto 82, 3) := by decide +kernel
theorem dX6_differs_169 : decode cX6_differs 169 = .ok (.iload 6, 2) := by decide +kernel
theorem dX6_differs_171 : decode cX6_differs 171 = .ok (.ifCond .le 30, 3) := by decide +kernel
theorem dX6_differs_174 : decode cX6_differs 174 = .ok (.aload_n 0, 1) := by decide +kernel
theorem dX6_differs_175 : decode cX6_differs 175 = .ok (.iload_n 1, 1) := by decide +kernel
theorem dX6_differs_176 : decode cX6_differs 176 = .ok (.aload_n 0, 1) := by decide +kernel
theorem dX6_differs_177 : decode cX6_differs 177 = .ok (.getfield 13, 3) := by decide +kernel
theorem dX6_differs_180 : decode cX6_differs 180 = .ok (.iload 5, 2) := by decide +kernel
theorem dX6_differs_182 : decode cX6_differs 182 = .ok (.iaload, 1) := by decide +kernel
theorem dX6_differs_183 : decode cX6_differs 183 = .ok (.aload_n 0, 1) := by decide +kernel
theorem dX6_differs_184 : decode cX6_differs 184 = .ok (.getfield 16, 3) := by decide +kernel
theorem dX6_differs_187 : decode cX6_differs 187 = .ok (.iload 5, 2) := by decide +kernel
theorem dX6_differs_189 : decode cX6_differs 189 = .ok (.iaload, 1) := by decide +kernel
theorem dX6_differs_190 : decode cX6_differs 190 = .ok (.iconst (-1), 1) := by decide +kernel
theorem dX6_differs_191 : decode cX6_differs 191 = .ok (.invokevirtual 140, 3) := by decide +kernel
theorem dX6_differs_194 : decode cX6_differs 194 = .ok (.iload_n 1, 1) := by decide +kernel
theorem dX6_differs_195 : decode cX6_differs 195 = .ok (.iconst 1, 1) := by decide +kernel
theorem dX6_differs_196 : decode cX6_differs 196 = .ok (.iadd, 1) := by decide +kernel
theorem dX6_differs_197 : decode cX6_differs 197 = .ok (.istore_n 1, 1) := by decide +kernel
theorem dX6_differs_198 : decode cX6_differs 198 = .ok (.goto 50, 3) := by decide +kernel
theorem dX6_differs_201 : decode cX6_differs 201 = .ok (.aload_n 0, 1) := by decide +kernel
theorem dX6_differs_202 : decode cX6_differs 202 = .ok (.getfield 19, 3) := by decide +kernel
theorem dX6_differs_205 : decode cX6_differs 205 = .ok (.iload 4, 2) := by decide +kernel
theorem dX6_differs_207 : decode cX6_differs 207 = .ok (.iaload, 1) := by decide +kernel
theorem dX6_differs_208 : decode cX6_differs 208 = .ok (.aload_n 0, 1) := by decide +kernel
theorem dX6_differs_209 : decode cX6_differs 209 = .ok (.getfield 19, 3) := by decide +kernel
theorem dX6_differs_212 : decode cX6_differs 212 = .ok (.iload 5, 2) := by decide +kernel
theorem dX6_differs_214 : decode cX6_differs 214 = .ok (.iaload, 1) := by decide +kernel
theorem dX6_differs_215 : decode cX6_differs 215 = .ok (.if_icmp .eq 33, 3) := by decide +kernel
theorem dX6_differs_218 : decode cX6_differs 218 = .ok (.aload_n 0, 1) := by decide +kernel
theorem dX6_differs_219 : decode cX6_differs 219 = .ok (.iload_n 1, 1) := by decide +kernel
theorem dX6_differs_220 : decode cX6_differs 220 = .ok (.aload_n 0, 1) := by decide +kernel
theorem dX6_differs_221 : decode cX6_differs 221 = .ok (.getfield 13, 3) := by decide +kernel
theorem dX6_differs_224 : decode cX6_differs 224 = .ok (.iload 4, 2) := by decide +kernel
theorem dX6_differs_226 : decode cX6_differs 226 = .ok (.iaload, 1) := by decide +kernel
theorem dX6_differs_227 : decode cX6_differs 227 = .ok (.aload_n 0, 1) := by decide +kernel
theorem dX6_differs_228 : decode cX6_differs 228 = .ok (.getfield 16, 3) := by decide +kernel
theorem dX6_differs_231 : decode cX6_differs 231 = .ok (.iload 4, 2) := by decide +kernel
theorem dX6_differs_233 : decode cX6_differs 233 = .ok (.iaload, 1) := by decide +kernel
theorem dX6_differs_234 : decode cX6_differs 234 = .ok (.aload_n 0, 1) := by decide +kernel
theorem dX6_differs_235 : decode cX6_differs 235 = .ok (.getfield 19, 3) := by decide +kernel
theorem dX6_differs_238 : decode cX6_differs 238 = .ok (.iload 4, 2) := by decide +kernel
theorem dX6_differs_240 : decode cX6_differs 240 = .ok (.iaload, 1) := by decide +kernel
theorem dX6_differs_241 : decode cX6_differs 241 = .ok (.invokevirtual 140, 3) := by decide +kernel
theorem dX6_differs_244 : decode cX6_differs 244 = .ok (.iload_n 1, 1) := by decide +kernel
theorem dX6_differs_245 : decode cX6_differs 245 = .ok (.iconst 1, 1) := by decide +kernel
theorem dX6_differs_246 : decode cX6_differs 246 = .ok (.iadd, 1) := by decide +kernel
theorem dX6_differs_247 : decode cX6_differs 247 = .ok (.istore_n 1, 1) := by decide +kernel
theorem dX6_differs_248 : decode cX6_differs 248 = .ok (.iload 6, 2) := by decide +kernel
theorem dX6_differs_250 : decode cX6_differs 250 = .ok (.ifCond .gt 7, 3) := by decide +kernel
theorem dX6_differs_253 : decode cX6_differs 253 = .ok (.iload_n 2, 1) := by decide +kernel
theorem dX6_differs_254 : decode cX6_differs 254 = .ok (.iconst 1, 1) := by decide +kernel
theorem dX6_differs_255 : decode cX6_differs 255 = .ok (.iadd, 1) := by decide +kernel
theorem dX6_differs_256 : decode cX6_differs 256 = .ok (.istore_n 2, 1) := by decide +kernel
theorem dX6_differs_257 : decode cX6_differs 257 = .ok (.iload 6, 2) := by decide +kernel
theorem dX6_differs_259 : decode cX6_differs 259 = .ok (.ifCond .lt 7, 3) := by decide +kernel
theorem dX6_differs_262 : decode cX6_differs 262 = .ok (.iload_n 3, 1) := by decide +kernel
theorem dX6_differs_263 : decode cX6_differs 263 = .ok (.iconst 1, 1) := by decide +kernel
theorem dX6_differs_264 : decode cX6_differs 264 = .ok (.iadd, 1) := by decide +kernel
theorem dX6_differs_265 : decode cX6_differs 265 = .ok (.istore_n 3, 1) := by decide +kernel
theorem dX6_differs_266 : decode cX6_differs 266 = .ok (.goto (-245), 3) := by decide +kernel
theorem dX6_differs_269 : decode cX6_differs 269 = .ok (.iload_n 1, 1) := by decide +kernel
theorem dX6_differs_270 : decode cX6_differs 270 = .ok (.ireturn, 1) := by decide +kernel
theorem dX6_result_0 : decode cX6_result 0 = .ok (.iload_n 1, 1) := by decide +kernel
theorem dX6_result_1 : decode cX6_result 1 = .ok (.ifCond .lt 11, 3) := by decide +kernel
theorem dX6_result_4 : decode cX6_result 4 = .ok (.iload_n 1, 1) := by decide +kernel
theorem dX6_result_5 : decode cX6_result 5 = .ok (.aload_n 0, 1) := by decide +kernel
theorem dX6_result_6 : decode cX6_result 6 = .ok (.getfield 137, 3) := by decide +kernel
theorem dX6_result_9 : decode cX6_result 9 = .ok (.if_icmp .lt 5, 3) := by decide +kernel
theorem dX6_result_12 : decode cX6_result 12 = .ok (.iconst (-1), 1) := by decide +kernel
theorem dX6_result_13 : decode cX6_result 13 = .ok (.ireturn, 1) := by decide +kernel
theorem dX6_result_14 : decode cX6_result 14 = .ok (.iload_n 2, 1) := by decide +kernel
theorem dX6_result_15 : decode cX6_result 15 = .ok (.ifCond .ne 12, 3) := by decide +kernel
theorem dX6_result_18 : decode cX6_result 18 = .ok (.aload_n 0, 1) := by decide +kernel
theorem dX6_result_19 : decode cX6_result 19 = .ok (.getfield 39, 3) := by decide +kernel
theorem dX6_result_22 : decode cX6_result 22 = .ok (.iload_n 1, 1) := by decide +kernel
theorem dX6_result_23 : decode cX6_result 23 = .ok (.iaload, 1) := by decide +kernel
theorem dX6_result_24 : decode cX6_result 24 = .ok (.goto 32, 3) := by decide +kernel
theorem dX6_result_27 : decode cX6_result 27 = .ok (.iload_n 2, 1) := by decide +kernel
theorem dX6_result_28 : decode cX6_result 28 = .ok (.iconst 1, 1) := by decide +kernel
theorem dX6_result_29 : decode cX6_result 29 = .ok (.if_icmp .ne 12, 3) := by decide +kernel
theorem dX6_result_32 : decode cX6_result 32 = .ok (.aload_n 0, 1) := by decide +kernel
theorem dX6_result_33 : decode cX6_result 33 = .ok (.getfield 42, 3) := by decide +kernel
theorem dX6_result_36 : decode cX6_result 36 = .ok (.iload_n 1, 1) := by decide +kernel
theorem dX6_result_37 : decode cX6_result 37 = .ok (.iaload, 1) := by decide +kernel
theorem dX6_result_38 : decode cX6_result 38 = .ok (.goto 18, 3) := by decide +kernel
theorem dX6_result_41 : decode cX6_result 41 = .ok (.iload_n 2, 1) := by decide +kernel
theorem dX6_result_42 : decode cX6_result 42 = .ok (.iconst 2, 1) := by decide +kernel
theorem dX6_result_43 : decode cX6_result 43 = .ok (.if_icmp .ne 12, 3) := by decide +kernel
theorem dX6_result_46 : decode cX6_result 46 = .ok (.aload_n 0, 1) := by decide +kernel
theorem dX6_result_47 : decode cX6_result 47 = .ok (.getfield 45, 3) := by decide +kernel
theorem dX6_result_50 : decode cX6_result 50 = .ok (.iload_n 1, 1) := by decide +kernel
theorem dX6_result_51 : decode cX6_result 51 = .ok (.iaload, 1) := by decide +kernel
theorem dX6_result_52 : decode cX6_result 52 = .ok (.goto 4, 3) := by decide +kernel
theorem dX6_result_55 : decode cX6_result 55 = .ok (.iconst (-1), 1) := by decide +kernel
theorem dX6_result_56 : decode cX6_result 56 = .ok (.ireturn, 1) := by decide +kernel
theorem dX6_size_0 : decode cX6_size 0 = .ok (.aload_n 0, 1) := by decide +kernel
theorem dX6_size_1 : decode cX6_size 1 = .ok (.getfield 137, 3) := by decide +kernel
theorem dX6_size_4 : decode cX6_size 4 = .ok (.ireturn, 1) := by decide +kernel
theorem dX6_goes_0 : decode cX6_goes 0 = .ok (.aload_n 0, 1) := by decide +kernel
theorem dX6_goes_1 : decode cX6_goes 1 = .ok (.iconst 1, 1) := by decide +kernel
theorem dX6_goes_2 : decode cX6_goes 2 = .ok (.putfield 105, 3) := by decide +kernel
theorem dX6_goes_5 : decode cX6_goes 5 = .ok (.aload_n 0, 1) := by decide +kernel
theorem dX6_goes_6 : decode cX6_goes 6 = .ok (.iconst (-1), 1) := by decide +kernel
theorem dX6_goes_7 : decode cX6_goes 7 = .ok (.putfield 29, 3) := by decide +kernel
theorem dX6_goes_10 : decode cX6_goes 10 = .ok (.aload_n 0, 1) := by decide +kernel
theorem dX6_goes_11 : decode cX6_goes 11 = .ok (.iconst 0, 1) := by decide +kernel
theorem dX6_goes_12 : decode cX6_goes 12 = .ok (.putfield 137, 3) := by decide +kernel
theorem dX6_goes_15 : decode cX6_goes 15 = .ok (.bipush (-2), 2) := by decide +kernel
theorem dX6_goes_17 : decode cX6_goes 17 = .ok (.ireturn, 1) := by decide +kernel
set_option maxRecDepth 20000 in
theorem ggX6_commit_X6_becomes : GoodIn wsX6_commit wsX6_becomes := goodIn_r _ [8, 9, 10, 11, 12, 13, 14, 2, 20, 21, 22, 23, 24, 25, 26, 27, 28, 29, 30, 31, 32, 33, 34, 35, 36, 37, 38, 39, 40, 41, 42, 43, 44] (by decide +kernel) (by decide +kernel)
set_option maxRecDepth 20000 in
theorem gX6_commit_X6_becomes : GoodIn wsX6_commit (wsV RX6 145 RX6 yX6_becomes wsX6_becomes) := goodIn_app (goodIn_of _ (by decide +kernel)) ggX6_commit_X6_becomes
set_option maxRecDepth 20000 in
theorem ggX6_commit_X6_goes : GoodIn wsX6_commit wsX6_goes := goodIn_r _ [18, 1, 3, 19, 20, 21, 22, 23, 24, 25, 26, 27, 28, 29, 30, 31, 32, 33, 34, 35, 36, 37, 38, 39, 40, 41, 42, 43, 44] (by decide +kernel) (by decide +kernel)
set_option maxRecDepth 20000 in
theorem gX6_commit_X6_goes : GoodIn wsX6_commit (wsV RX6 149 RX6 yX6_goes wsX6_goes) := goodIn_app (goodIn_of _ (by decide +kernel)) ggX6_commit_X6_goes
theorem dX6_commit_0 : decode cX6_commit 0 = .ok (.aload_n 0, 1) := by decide +kernel
theorem dX6_commit_1 : decode cX6_commit 1 = .ok (.getfield 105, 3) := by decide +kernel
theorem dX6_commit_4 : decode cX6_commit 4 = .ok (.ifCond .eq 6, 3) := by decide +kernel
theorem dX6_commit_7 : decode cX6_commit 7 = .ok (.bipush (-2), 2) := by decide +kernel
theorem dX6_commit_9 : decode cX6_commit 9 = .ok (.ireturn, 1) := by decide +kernel
theorem dX6_commit_10 : decode cX6_commit 10 = .ok (.aload_n 0, 1) := by decide +kernel
theorem dX6_commit_11 : decode cX6_commit 11 = .ok (.getfield 71, 3) := by decide +kernel
theorem dX6_commit_14 : decode cX6_commit 14 = .ok (.istore_n 1, 1) := by decide +kernel
theorem dX6_commit_15 : decode cX6_commit 15 = .ok (.iload_n 1, 1) := by decide +kernel
theorem dX6_commit_16 : decode cX6_commit 16 = .ok (.ifCond .ne 5, 3) := by decide +kernel
theorem dX6_commit_19 : decode cX6_commit 19 = .ok (.iconst 0, 1) := by decide +kernel
theorem dX6_commit_20 : decode cX6_commit 20 = .ok (.ireturn, 1) := by decide +kernel
theorem dX6_commit_21 : decode cX6_commit 21 = .ok (.aload_n 0, 1) := by decide +kernel
theorem dX6_commit_22 : decode cX6_commit 22 = .ok (.getfield 29, 3) := by decide +kernel
theorem dX6_commit_25 : decode cX6_commit 25 = .ok (.ifCond .eq 9, 3) := by decide +kernel
theorem dX6_commit_28 : decode cX6_commit 28 = .ok (.aload_n 0, 1) := by decide +kernel
theorem dX6_commit_29 : decode cX6_commit 29 = .ok (.iconst 1, 1) := by decide +kernel
theorem dX6_commit_30 : decode cX6_commit 30 = .ok (.iconst 0, 1) := by decide +kernel
theorem dX6_commit_31 : decode cX6_commit 31 = .ok (.invokevirtual 145, 3) := by decide +kernel
theorem dX6_commit_34 : decode cX6_commit 34 = .ok (.aload_n 0, 1) := by decide +kernel
theorem dX6_commit_35 : decode cX6_commit 35 = .ok (.getfield 29, 3) := by decide +kernel
theorem dX6_commit_38 : decode cX6_commit 38 = .ok (.ifCond .eq 11, 3) := by decide +kernel
theorem dX6_commit_41 : decode cX6_commit 41 = .ok (.aload_n 0, 1) := by decide +kernel
theorem dX6_commit_42 : decode cX6_commit 42 = .ok (.getfield 29, 3) := by decide +kernel
theorem dX6_commit_45 : decode cX6_commit 45 = .ok (.iconst 1, 1) := by decide +kernel
theorem dX6_commit_46 : decode cX6_commit 46 = .ok (.if_icmp .ne 10, 3) := by decide +kernel
theorem dX6_commit_49 : decode cX6_commit 49 = .ok (.aload_n 0, 1) := by decide +kernel
theorem dX6_commit_50 : decode cX6_commit 50 = .ok (.invokevirtual 149, 3) := by decide +kernel
theorem dX6_commit_53 : decode cX6_commit 53 = .ok (.goto 4, 3) := by decide +kernel
theorem dX6_commit_56 : decode cX6_commit 56 = .ok (.iload_n 1, 1) := by decide +kernel
theorem dX6_commit_57 : decode cX6_commit 57 = .ok (.ireturn, 1) := by decide +kernel
set_option maxRecDepth 20000 in
theorem ggX6_abort_X6_becomes : GoodIn wsX6_abort wsX6_becomes := goodIn_r _ [7, 8, 9, 10, 11, 12, 13, 2, 14, 15, 16, 17, 18, 19, 20, 21, 22, 23, 24, 25, 26, 27, 28, 29, 30, 31, 32, 33, 34, 35, 36, 37, 38] (by decide +kernel) (by decide +kernel)
set_option maxRecDepth 20000 in
theorem gX6_abort_X6_becomes : GoodIn wsX6_abort (wsV RX6 145 RX6 yX6_becomes wsX6_becomes) := goodIn_app (goodIn_of _ (by decide +kernel)) ggX6_abort_X6_becomes
theorem dX6_abort_0 : decode cX6_abort 0 = .ok (.aload_n 0, 1) := by decide +kernel
theorem dX6_abort_1 : decode cX6_abort 1 = .ok (.getfield 105, 3) := by decide +kernel
theorem dX6_abort_4 : decode cX6_abort 4 = .ok (.ifCond .eq 6, 3) := by decide +kernel
theorem dX6_abort_7 : decode cX6_abort 7 = .ok (.bipush (-2), 2) := by decide +kernel
theorem dX6_abort_9 : decode cX6_abort 9 = .ok (.ireturn, 1) := by decide +kernel
theorem dX6_abort_10 : decode cX6_abort 10 = .ok (.aload_n 0, 1) := by decide +kernel
theorem dX6_abort_11 : decode cX6_abort 11 = .ok (.getfield 71, 3) := by decide +kernel
theorem dX6_abort_14 : decode cX6_abort 14 = .ok (.istore_n 1, 1) := by decide +kernel
theorem dX6_abort_15 : decode cX6_abort 15 = .ok (.aload_n 0, 1) := by decide +kernel
theorem dX6_abort_16 : decode cX6_abort 16 = .ok (.iconst 0, 1) := by decide +kernel
theorem dX6_abort_17 : decode cX6_abort 17 = .ok (.iconst 1, 1) := by decide +kernel
theorem dX6_abort_18 : decode cX6_abort 18 = .ok (.invokevirtual 145, 3) := by decide +kernel
theorem dX6_abort_21 : decode cX6_abort 21 = .ok (.iload_n 1, 1) := by decide +kernel
theorem dX6_abort_22 : decode cX6_abort 22 = .ok (.ireturn, 1) := by decide +kernel
set_option maxRecDepth 20000 in
theorem ggX6_format_X6_goes : GoodIn wsX6_format wsX6_goes := goodIn_r _ [9, 1, 2, 10, 11, 12, 13, 14, 15, 16, 17, 18, 19, 20, 21, 22, 23, 24, 25, 26, 27, 28, 29, 30, 31, 32, 33, 34, 35] (by decide +kernel) (by decide +kernel)
set_option maxRecDepth 20000 in
theorem gX6_format_X6_goes : GoodIn wsX6_format (wsV RX6 149 RX6 yX6_goes wsX6_goes) := goodIn_app (goodIn_of _ (by decide +kernel)) ggX6_format_X6_goes
theorem dX6_format_0 : decode cX6_format 0 = .ok (.aload_n 0, 1) := by decide +kernel
theorem dX6_format_1 : decode cX6_format 1 = .ok (.getfield 105, 3) := by decide +kernel
theorem dX6_format_4 : decode cX6_format 4 = .ok (.ifCond .eq 6, 3) := by decide +kernel
theorem dX6_format_7 : decode cX6_format 7 = .ok (.bipush (-2), 2) := by decide +kernel
theorem dX6_format_9 : decode cX6_format 9 = .ok (.ireturn, 1) := by decide +kernel
theorem dX6_format_10 : decode cX6_format 10 = .ok (.aload_n 0, 1) := by decide +kernel
theorem dX6_format_11 : decode cX6_format 11 = .ok (.getfield 29, 3) := by decide +kernel
theorem dX6_format_14 : decode cX6_format 14 = .ok (.ifCond .eq 22, 3) := by decide +kernel
theorem dX6_format_17 : decode cX6_format 17 = .ok (.aload_n 0, 1) := by decide +kernel
theorem dX6_format_18 : decode cX6_format 18 = .ok (.getfield 7, 3) := by decide +kernel
theorem dX6_format_21 : decode cX6_format 21 = .ok (.iconst 0, 1) := by decide +kernel
theorem dX6_format_22 : decode cX6_format 22 = .ok (.iconst 0, 1) := by decide +kernel
theorem dX6_format_23 : decode cX6_format 23 = .ok (.iastore, 1) := by decide +kernel
theorem dX6_format_24 : decode cX6_format 24 = .ok (.aload_n 0, 1) := by decide +kernel
theorem dX6_format_25 : decode cX6_format 25 = .ok (.getfield 7, 3) := by decide +kernel
theorem dX6_format_28 : decode cX6_format 28 = .ok (.iconst 1, 1) := by decide +kernel
theorem dX6_format_29 : decode cX6_format 29 = .ok (.iconst 0, 1) := by decide +kernel
theorem dX6_format_30 : decode cX6_format 30 = .ok (.iastore, 1) := by decide +kernel
theorem dX6_format_31 : decode cX6_format 31 = .ok (.aload_n 0, 1) := by decide +kernel
theorem dX6_format_32 : decode cX6_format 32 = .ok (.iconst 0, 1) := by decide +kernel
theorem dX6_format_33 : decode cX6_format 33 = .ok (.putfield 71, 3) := by decide +kernel
theorem dX6_format_36 : decode cX6_format 36 = .ok (.aload_n 0, 1) := by decide +kernel
theorem dX6_format_37 : decode cX6_format 37 = .ok (.getfield 29, 3) := by decide +kernel
theorem dX6_format_40 : decode cX6_format 40 = .ok (.ifCond .eq 11, 3) := by decide +kernel
theorem dX6_format_43 : decode cX6_format 43 = .ok (.aload_n 0, 1) := by decide +kernel
theorem dX6_format_44 : decode cX6_format 44 = .ok (.getfield 29, 3) := by decide +kernel
theorem dX6_format_47 : decode cX6_format 47 = .ok (.iconst 1, 1) := by decide +kernel
theorem dX6_format_48 : decode cX6_format 48 = .ok (.if_icmp .ne 10, 3) := by decide +kernel
theorem dX6_format_51 : decode cX6_format 51 = .ok (.aload_n 0, 1) := by decide +kernel
theorem dX6_format_52 : decode cX6_format 52 = .ok (.invokevirtual 149, 3) := by decide +kernel
theorem dX6_format_55 : decode cX6_format 55 = .ok (.goto 4, 3) := by decide +kernel
theorem dX6_format_58 : decode cX6_format 58 = .ok (.iconst 0, 1) := by decide +kernel
theorem dX6_format_59 : decode cX6_format 59 = .ok (.ireturn, 1) := by decide +kernel
theorem dX6_arm_0 : decode cX6_arm 0 = .ok (.iload_n 1, 1) := by decide +kernel
theorem dX6_arm_1 : decode cX6_arm 1 = .ok (.iconst 3, 1) := by decide +kernel
theorem dX6_arm_2 : decode cX6_arm 2 = .ok (.if_icmp .ne 10, 3) := by decide +kernel
theorem dX6_arm_5 : decode cX6_arm 5 = .ok (.aload_n 0, 1) := by decide +kernel
theorem dX6_arm_6 : decode cX6_arm 6 = .ok (.iconst (-1), 1) := by decide +kernel
theorem dX6_arm_7 : decode cX6_arm 7 = .ok (.putfield 29, 3) := by decide +kernel
theorem dX6_arm_10 : decode cX6_arm 10 = .ok (.iconst 1, 1) := by decide +kernel
theorem dX6_arm_11 : decode cX6_arm 11 = .ok (.ireturn, 1) := by decide +kernel
theorem dX6_arm_12 : decode cX6_arm 12 = .ok (.iload_n 1, 1) := by decide +kernel
theorem dX6_arm_13 : decode cX6_arm 13 = .ok (.ifCond .lt 19, 3) := by decide +kernel
theorem dX6_arm_16 : decode cX6_arm 16 = .ok (.iload_n 1, 1) := by decide +kernel
theorem dX6_arm_17 : decode cX6_arm 17 = .ok (.iconst 2, 1) := by decide +kernel
theorem dX6_arm_18 : decode cX6_arm 18 = .ok (.if_icmp .gt 14, 3) := by decide +kernel
theorem dX6_arm_21 : decode cX6_arm 21 = .ok (.iload_n 2, 1) := by decide +kernel
theorem dX6_arm_22 : decode cX6_arm 22 = .ok (.ifCond .lt 10, 3) := by decide +kernel
theorem dX6_arm_25 : decode cX6_arm 25 = .ok (.iload_n 2, 1) := by decide +kernel
theorem dX6_arm_26 : decode cX6_arm 26 = .ok (.sipush 256, 3) := by decide +kernel
theorem dX6_arm_29 : decode cX6_arm 29 = .ok (.if_icmp .le 5, 3) := by decide +kernel
theorem dX6_arm_32 : decode cX6_arm 32 = .ok (.iconst 0, 1) := by decide +kernel
theorem dX6_arm_33 : decode cX6_arm 33 = .ok (.ireturn, 1) := by decide +kernel
theorem dX6_arm_34 : decode cX6_arm 34 = .ok (.aload_n 0, 1) := by decide +kernel
theorem dX6_arm_35 : decode cX6_arm 35 = .ok (.iload_n 1, 1) := by decide +kernel
theorem dX6_arm_36 : decode cX6_arm 36 = .ok (.putfield 29, 3) := by decide +kernel
theorem dX6_arm_39 : decode cX6_arm 39 = .ok (.iconst 1, 1) := by decide +kernel
theorem dX6_arm_40 : decode cX6_arm 40 = .ok (.ireturn, 1) := by decide +kernel
set_option maxRecDepth 20000 in
theorem ggX6_recover_X6_goes : GoodIn wsX6_recover wsX6_goes := goodIn_r _ [8, 3, 2, 1, 20, 21, 22, 23, 24, 25, 26, 27, 28, 29, 30, 31, 32, 33, 34, 35, 36, 37, 38, 39, 40, 41, 42, 43, 44] (by decide +kernel) (by decide +kernel)
set_option maxRecDepth 20000 in
theorem gX6_recover_X6_goes : GoodIn wsX6_recover (wsV RX6 149 RX6 yX6_goes wsX6_goes) := goodIn_app (goodIn_of _ (by decide +kernel)) ggX6_recover_X6_goes
set_option maxRecDepth 20000 in
theorem ggX6_recover_X6_becomes : GoodIn wsX6_recover wsX6_becomes := goodIn_r _ [12, 13, 14, 15, 16, 17, 18, 19, 20, 21, 22, 23, 24, 25, 26, 27, 28, 29, 30, 31, 32, 33, 34, 35, 36, 37, 38, 39, 40, 41, 42, 43, 44] (by decide +kernel) (by decide +kernel)
set_option maxRecDepth 20000 in
theorem gX6_recover_X6_becomes : GoodIn wsX6_recover (wsV RX6 145 RX6 yX6_becomes wsX6_becomes) := goodIn_app (goodIn_of _ (by decide +kernel)) ggX6_recover_X6_becomes
theorem dX6_recover_0 : decode cX6_recover 0 = .ok (.aload_n 0, 1) := by decide +kernel
theorem dX6_recover_1 : decode cX6_recover 1 = .ok (.iconst 0, 1) := by decide +kernel
theorem dX6_recover_2 : decode cX6_recover 2 = .ok (.putfield 137, 3) := by decide +kernel
theorem dX6_recover_5 : decode cX6_recover 5 = .ok (.aload_n 0, 1) := by decide +kernel
theorem dX6_recover_6 : decode cX6_recover 6 = .ok (.getfield 29, 3) := by decide +kernel
theorem dX6_recover_9 : decode cX6_recover 9 = .ok (.iconst 2, 1) := by decide +kernel
theorem dX6_recover_10 : decode cX6_recover 10 = .ok (.if_icmp .ne 8, 3) := by decide +kernel
theorem dX6_recover_13 : decode cX6_recover 13 = .ok (.aload_n 0, 1) := by decide +kernel
theorem dX6_recover_14 : decode cX6_recover 14 = .ok (.invokevirtual 149, 3) := by decide +kernel
theorem dX6_recover_17 : decode cX6_recover 17 = .ok (.ireturn, 1) := by decide +kernel
theorem dX6_recover_18 : decode cX6_recover 18 = .ok (.aload_n 0, 1) := by decide +kernel
theorem dX6_recover_19 : decode cX6_recover 19 = .ok (.iconst 0, 1) := by decide +kernel
theorem dX6_recover_20 : decode cX6_recover 20 = .ok (.putfield 105, 3) := by decide +kernel
theorem dX6_recover_23 : decode cX6_recover 23 = .ok (.aload_n 0, 1) := by decide +kernel
theorem dX6_recover_24 : decode cX6_recover 24 = .ok (.iconst 0, 1) := by decide +kernel
theorem dX6_recover_25 : decode cX6_recover 25 = .ok (.iconst 1, 1) := by decide +kernel
theorem dX6_recover_26 : decode cX6_recover 26 = .ok (.invokevirtual 145, 3) := by decide +kernel
theorem dX6_recover_29 : decode cX6_recover 29 = .ok (.iconst 0, 1) := by decide +kernel
theorem dX6_recover_30 : decode cX6_recover 30 = .ok (.ireturn, 1) := by decide +kernel
set_option maxRecDepth 20000 in
theorem ggX6_count_X6_nodes : GoodIn wsX6_count wsX6_nodes := goodIn_r _ [12, 13, 14, 15, 11, 16, 17, 18, 19, 20, 21, 22, 23, 24, 25, 26, 27, 6, 28, 29, 30, 31, 32, 2, 33, 34, 35, 36, 37, 38, 39, 40, 41, 46, 47, 48, 49, 50, 51, 52, 53, 54, 55, 56, 57, 58, 59, 60, 61, 62, 63, 64, 65, 66, 67, 68, 69, 70] (by decide +kernel) (by decide +kernel)
set_option maxRecDepth 20000 in
theorem gX6_count_X6_nodes : GoodIn wsX6_count (wsV RX6 129 RX6 yX6_nodes wsX6_nodes) := goodIn_app (goodIn_of _ (by decide +kernel)) ggX6_count_X6_nodes
set_option maxRecDepth 20000 in
theorem ggX6_count_X6_depth : GoodIn wsX6_count wsX6_depth := goodIn_r _ [45, 24, 13, 14, 15, 11, 16, 17, 18, 19, 20, 21, 22, 23, 25, 26, 27, 6, 28, 29, 30, 31, 32, 2, 33, 34, 35, 36, 37, 38, 39, 40, 41, 46, 47, 48, 49, 50, 51, 52, 53, 54, 55, 56, 57, 58, 59, 60, 61, 62, 63, 64, 65, 66, 67, 68, 69, 70] (by decide +kernel) (by decide +kernel)
set_option maxRecDepth 20000 in
theorem gX6_count_X6_depth : GoodIn wsX6_count (wsV RX6 153 RX6 yX6_depth wsX6_depth) := goodIn_app (goodIn_of _ (by decide +kernel)) ggX6_count_X6_depth
theorem dX6_count_0 : decode cX6_count 0 = .ok (.aload_n 0, 1) := by decide +kernel
theorem dX6_count_1 : decode cX6_count 1 = .ok (.getfield 105, 3) := by decide +kernel
theorem dX6_count_4 : decode cX6_count 4 = .ok (.ifCond .eq 6, 3) := by decide +kernel
theorem dX6_count_7 : decode cX6_count 7 = .ok (.bipush (-2), 2) := by decide +kernel
theorem dX6_count_9 : decode cX6_count 9 = .ok (.ireturn, 1) := by decide +kernel
theorem dX6_count_10 : decode cX6_count 10 = .ok (.iload_n 1, 1) := by decide +kernel
theorem dX6_count_11 : decode cX6_count 11 = .ok (.tableswitch 124 0 10 #[57, 64, 71, 77, 83, 94, 99, 104, 109, 114, 119], 57) := by decide +kernel
theorem dX6_count_68 : decode cX6_count 68 = .ok (.aload_n 0, 1) := by decide +kernel
theorem dX6_count_69 : decode cX6_count 69 = .ok (.getfield 7, 3) := by decide +kernel
theorem dX6_count_72 : decode cX6_count 72 = .ok (.iconst 0, 1) := by decide +kernel
theorem dX6_count_73 : decode cX6_count 73 = .ok (.iaload, 1) := by decide +kernel
theorem dX6_count_74 : decode cX6_count 74 = .ok (.ireturn, 1) := by decide +kernel
theorem dX6_count_75 : decode cX6_count 75 = .ok (.aload_n 0, 1) := by decide +kernel
theorem dX6_count_76 : decode cX6_count 76 = .ok (.getfield 7, 3) := by decide +kernel
theorem dX6_count_79 : decode cX6_count 79 = .ok (.iconst 1, 1) := by decide +kernel
theorem dX6_count_80 : decode cX6_count 80 = .ok (.iaload, 1) := by decide +kernel
theorem dX6_count_81 : decode cX6_count 81 = .ok (.ireturn, 1) := by decide +kernel
theorem dX6_count_82 : decode cX6_count 82 = .ok (.aload_n 0, 1) := by decide +kernel
theorem dX6_count_83 : decode cX6_count 83 = .ok (.iconst 0, 1) := by decide +kernel
theorem dX6_count_84 : decode cX6_count 84 = .ok (.invokevirtual 129, 3) := by decide +kernel
theorem dX6_count_87 : decode cX6_count 87 = .ok (.ireturn, 1) := by decide +kernel
theorem dX6_count_88 : decode cX6_count 88 = .ok (.aload_n 0, 1) := by decide +kernel
theorem dX6_count_89 : decode cX6_count 89 = .ok (.iconst 1, 1) := by decide +kernel
theorem dX6_count_90 : decode cX6_count 90 = .ok (.invokevirtual 129, 3) := by decide +kernel
theorem dX6_count_93 : decode cX6_count 93 = .ok (.ireturn, 1) := by decide +kernel
theorem dX6_count_94 : decode cX6_count 94 = .ok (.aload_n 0, 1) := by decide +kernel
theorem dX6_count_95 : decode cX6_count 95 = .ok (.getfield 51, 3) := by decide +kernel
theorem dX6_count_98 : decode cX6_count 98 = .ok (.aload_n 0, 1) := by decide +kernel
theorem dX6_count_99 : decode cX6_count 99 = .ok (.iconst 0, 1) := by decide +kernel
theorem dX6_count_100 : decode cX6_count 100 = .ok (.invokevirtual 129, 3) := by decide +kernel
theorem dX6_count_103 : decode cX6_count 103 = .ok (.isub, 1) := by decide +kernel
theorem dX6_count_104 : decode cX6_count 104 = .ok (.ireturn, 1) := by decide +kernel
theorem dX6_count_105 : decode cX6_count 105 = .ok (.aload_n 0, 1) := by decide +kernel
theorem dX6_count_106 : decode cX6_count 106 = .ok (.getfield 71, 3) := by decide +kernel
theorem dX6_count_109 : decode cX6_count 109 = .ok (.ireturn, 1) := by decide +kernel
theorem dX6_count_110 : decode cX6_count 110 = .ok (.aload_n 0, 1) := by decide +kernel
theorem dX6_count_111 : decode cX6_count 111 = .ok (.invokevirtual 153, 3) := by decide +kernel
theorem dX6_count_114 : decode cX6_count 114 = .ok (.ireturn, 1) := by decide +kernel
theorem dX6_count_115 : decode cX6_count 115 = .ok (.aload_n 0, 1) := by decide +kernel
theorem dX6_count_116 : decode cX6_count 116 = .ok (.getfield 29, 3) := by decide +kernel
theorem dX6_count_119 : decode cX6_count 119 = .ok (.ireturn, 1) := by decide +kernel
theorem dX6_count_120 : decode cX6_count 120 = .ok (.aload_n 0, 1) := by decide +kernel
theorem dX6_count_121 : decode cX6_count 121 = .ok (.getfield 51, 3) := by decide +kernel
theorem dX6_count_124 : decode cX6_count 124 = .ok (.ireturn, 1) := by decide +kernel
theorem dX6_count_125 : decode cX6_count 125 = .ok (.aload_n 0, 1) := by decide +kernel
theorem dX6_count_126 : decode cX6_count 126 = .ok (.getfield 54, 3) := by decide +kernel
theorem dX6_count_129 : decode cX6_count 129 = .ok (.ireturn, 1) := by decide +kernel
theorem dX6_count_130 : decode cX6_count 130 = .ok (.aload_n 0, 1) := by decide +kernel
theorem dX6_count_131 : decode cX6_count 131 = .ok (.getfield 60, 3) := by decide +kernel
theorem dX6_count_134 : decode cX6_count 134 = .ok (.ireturn, 1) := by decide +kernel
theorem dX6_count_135 : decode cX6_count 135 = .ok (.iconst (-1), 1) := by decide +kernel
theorem dX6_count_136 : decode cX6_count 136 = .ok (.ireturn, 1) := by decide +kernel
