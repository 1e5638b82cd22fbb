theorem dX10_init_0 : decode cX10_init 0 = .ok (.aload_n 0, 1) := by decide +kernel
theorem dX10_init_1 : decode cX10_init 1 = .ok (.invokespecial 1, 3) := by decide +kernel
theorem dX10_init_4 : decode cX10_init 4 = .ok (.aload_n 0, 1) := by decide +kernel
theorem dX10_init_5 : decode cX10_init 5 = .ok (.bipush 10, 2) := by decide +kernel
theorem dX10_init_7 : decode cX10_init 7 = .ok (.newarray .int, 2) := by decide +kernel
theorem dX10_init_9 : decode cX10_init 9 = .ok (.putfield 7, 3) := by decide +kernel
theorem dX10_init_12 : decode cX10_init 12 = .ok (.aload_n 0, 1) := by decide +kernel
theorem dX10_init_13 : decode cX10_init 13 = .ok (.sipush 240, 3) := by decide +kernel
theorem dX10_init_16 : decode cX10_init 16 = .ok (.newarray .int, 2) := by decide +kernel
theorem dX10_init_18 : decode cX10_init 18 = .ok (.putfield 13, 3) := by decide +kernel
theorem dX10_init_21 : decode cX10_init 21 = .ok (.aload_n 0, 1) := by decide +kernel
theorem dX10_init_22 : decode cX10_init 22 = .ok (.sipush 240, 3) := by decide +kernel
theorem dX10_init_25 : decode cX10_init 25 = .ok (.newarray .int, 2) := by decide +kernel
theorem dX10_init_27 : decode cX10_init 27 = .ok (.putfield 16, 3) := by decide +kernel
theorem dX10_init_30 : decode cX10_init 30 = .ok (.aload_n 0, 1) := by decide +kernel
theorem dX10_init_31 : decode cX10_init 31 = .ok (.sipush 240, 3) := by decide +kernel
theorem dX10_init_34 : decode cX10_init 34 = .ok (.newarray .int, 2) := by decide +kernel
theorem dX10_init_36 : decode cX10_init 36 = .ok (.putfield 19, 3) := by decide +kernel
theorem dX10_init_39 : decode cX10_init 39 = .ok (.aload_n 0, 1) := by decide +kernel
theorem dX10_init_40 : decode cX10_init 40 = .ok (.bipush 10, 2) := by decide +kernel
theorem dX10_init_42 : decode cX10_init 42 = .ok (.newarray .int, 2) := by decide +kernel
theorem dX10_init_44 : decode cX10_init 44 = .ok (.putfield 22, 3) := by decide +kernel
theorem dX10_init_47 : decode cX10_init 47 = .ok (.aload_n 0, 1) := by decide +kernel
theorem dX10_init_48 : decode cX10_init 48 = .ok (.sipush 200, 3) := by decide +kernel
theorem dX10_init_51 : decode cX10_init 51 = .ok (.newarray .int, 2) := by decide +kernel
theorem dX10_init_53 : decode cX10_init 53 = .ok (.putfield 25, 3) := by decide +kernel
theorem dX10_init_56 : decode cX10_init 56 = .ok (.aload_n 0, 1) := by decide +kernel
theorem dX10_init_57 : decode cX10_init 57 = .ok (.sipush 200, 3) := by decide +kernel
theorem dX10_init_60 : decode cX10_init 60 = .ok (.newarray .int, 2) := by decide +kernel
theorem dX10_init_62 : decode cX10_init 62 = .ok (.putfield 28, 3) := by decide +kernel
theorem dX10_init_65 : decode cX10_init 65 = .ok (.aload_n 0, 1) := by decide +kernel
theorem dX10_init_66 : decode cX10_init 66 = .ok (.sipush 1440, 3) := by decide +kernel
theorem dX10_init_69 : decode cX10_init 69 = .ok (.newarray .int, 2) := by decide +kernel
theorem dX10_init_71 : decode cX10_init 71 = .ok (.putfield 31, 3) := by decide +kernel
theorem dX10_init_74 : decode cX10_init 74 = .ok (.aload_n 0, 1) := by decide +kernel
theorem dX10_init_75 : decode cX10_init 75 = .ok (.sipush 3000, 3) := by decide +kernel
theorem dX10_init_78 : decode cX10_init 78 = .ok (.newarray .int, 2) := by decide +kernel
theorem dX10_init_80 : decode cX10_init 80 = .ok (.putfield 34, 3) := by decide +kernel
theorem dX10_init_83 : decode cX10_init 83 = .ok (.aload_n 0, 1) := by decide +kernel
theorem dX10_init_84 : decode cX10_init 84 = .ok (.sipush 500, 3) := by decide +kernel
theorem dX10_init_87 : decode cX10_init 87 = .ok (.newarray .boolean, 2) := by decide +kernel
theorem dX10_init_89 : decode cX10_init 89 = .ok (.putfield 37, 3) := by decide +kernel
theorem dX10_init_92 : decode cX10_init 92 = .ok (.aload_n 0, 1) := by decide +kernel
theorem dX10_init_93 : decode cX10_init 93 = .ok (.sipush 500, 3) := by decide +kernel
theorem dX10_init_96 : decode cX10_init 96 = .ok (.newarray .int, 2) := by decide +kernel
theorem dX10_init_98 : decode cX10_init 98 = .ok (.putfield 41, 3) := by decide +kernel
theorem dX10_init_101 : decode cX10_init 101 = .ok (.aload_n 0, 1) := by decide +kernel
theorem dX10_init_102 : decode cX10_init 102 = .ok (.sipush 500, 3) := by decide +kernel
theorem dX10_init_105 : decode cX10_init 105 = .ok (.newarray .int, 2) := by decide +kernel
theorem dX10_init_107 : decode cX10_init 107 = .ok (.putfield 44, 3) := by decide +kernel
theorem dX10_init_110 : decode cX10_init 110 = .ok (.aload_n 0, 1) := by decide +kernel
theorem dX10_init_111 : decode cX10_init 111 = .ok (.sipush 500, 3) := by decide +kernel
theorem dX10_init_114 : decode cX10_init 114 = .ok (.newarray .int, 2) := by decide +kernel
theorem dX10_init_116 : decode cX10_init 116 = .ok (.putfield 47, 3) := by decide +kernel
theorem dX10_init_119 : decode cX10_init 119 = .ok (.aload_n 0, 1) := by decide +kernel
theorem dX10_init_120 : decode cX10_init 120 = .ok (.sipush 2500, 3) := by decide +kernel
theorem dX10_init_123 : decode cX10_init 123 = .ok (.newarray .int, 2) := by decide +kernel
theorem dX10_init_125 : decode cX10_init 125 = .ok (.putfield 50, 3) := by decide +kernel
theorem dX10_init_128 : decode cX10_init 128 = .ok (.aload_n 0, 1) := by decide +kernel
theorem dX10_init_129 : decode cX10_init 129 = .ok (.iconst 5, 1) := by decide +kernel
theorem dX10_init_130 : decode cX10_init 130 = .ok (.newarray .int, 2) := by decide +kernel
theorem dX10_init_132 : decode cX10_init 132 = .ok (.putfield 53, 3) := by decide +kernel
theorem dX10_init_135 : decode cX10_init 135 = .ok (.aload_n 0, 1) := by decide +kernel
theorem dX10_init_136 : decode cX10_init 136 = .ok (.iconst 5, 1) := by decide +kernel
theorem dX10_init_137 : decode cX10_init 137 = .ok (.newarray .int, 2) := by decide +kernel
theorem dX10_init_139 : decode cX10_init 139 = .ok (.putfield 56, 3) := by decide +kernel
theorem dX10_init_142 : decode cX10_init 142 = .ok (.aload_n 0, 1) := by decide +kernel
theorem dX10_init_143 : decode cX10_init 143 = .ok (.bipush 6, 2) := by decide +kernel
theorem dX10_init_145 : decode cX10_init 145 = .ok (.newarray .int, 2) := by decide +kernel
theorem dX10_init_147 : decode cX10_init 147 = .ok (.putfield 59, 3) := by decide +kernel
theorem dX10_init_150 : decode cX10_init 150 = .ok (.aload_n 0, 1) := by decide +kernel
theorem dX10_init_151 : decode cX10_init 151 = .ok (.bipush 24, 2) := by decide +kernel
theorem dX10_init_153 : decode cX10_init 153 = .ok (.newarray .int, 2) := by decide +kernel
theorem dX10_init_155 : decode cX10_init 155 = .ok (.putfield 62, 3) := by decide +kernel
theorem dX10_init_158 : decode cX10_init 158 = .ok (.aload_n 0, 1) := by decide +kernel
theorem dX10_init_159 : decode cX10_init 159 = .ok (.bipush 24, 2) := by decide +kernel
theorem dX10_init_161 : decode cX10_init 161 = .ok (.newarray .int, 2) := by decide +kernel
theorem dX10_init_163 : decode cX10_init 163 = .ok (.putfield 65, 3) := by decide +kernel
theorem dX10_init_166 : decode cX10_init 166 = .ok (.aload_n 0, 1) := by decide +kernel
theorem dX10_init_167 : decode cX10_init 167 = .ok (.bipush 24, 2) := by decide +kernel
theorem dX10_init_169 : decode cX10_init 169 = .ok (.newarray .int, 2) := by decide +kernel
theorem dX10_init_171 : decode cX10_init 171 = .ok (.putfield 68, 3) := by decide +kernel
theorem dX10_init_174 : decode cX10_init 174 = .ok (.return_, 1) := by decide +kernel
theorem dX10_in_0 : decode cX10_in 0 = .ok (.lload_n 0, 1) := by decide +kernel
theorem dX10_in_1 : decode cX10_in 1 = .ok (.lload_n 2, 1) := by decide +kernel
theorem dX10_in_2 : decode cX10_in 2 = .ok (.lcmp, 1) := by decide +kernel
theorem dX10_in_3 : decode cX10_in 3 = .ok (.ifCond .lt 14, 3) := by decide +kernel
theorem dX10_in_6 : decode cX10_in 6 = .ok (.lload_n 0, 1) := by decide +kernel
theorem dX10_in_7 : decode cX10_in 7 = .ok (.lload 4, 2) := by decide +kernel
theorem dX10_in_9 : decode cX10_in 9 = .ok (.lcmp, 1) := by decide +kernel
theorem dX10_in_10 : decode cX10_in 10 = .ok (.ifCond .gt 7, 3) := by decide +kernel
theorem dX10_in_13 : decode cX10_in 13 = .ok (.iconst 1, 1) := by decide +kernel
theorem dX10_in_14 : decode cX10_in 14 = .ok (.goto 4, 3) := by decide +kernel
theorem dX10_in_17 : decode cX10_in 17 = .ok (.iconst 0, 1) := by decide +kernel
theorem dX10_in_18 : decode cX10_in 18 = .ok (.ireturn, 1) := by decide +kernel
theorem dX10_isThing_0 : decode cX10_isThing 0 = .ok (.iload_n 0, 1) := by decide +kernel
theorem dX10_isThing_1 : decode cX10_isThing 1 = .ok (.i2l, 1) := by decide +kernel
theorem dX10_isThing_2 : decode cX10_isThing 2 = .ok (.lconst 0, 1) := by decide +kernel
theorem dX10_isThing_3 : decode cX10_isThing 3 = .ok (.ldc2_w 71, 3) := by decide +kernel
theorem dX10_isThing_6 : decode cX10_isThing 6 = .ok (.invokestatic 73, 3) := by decide +kernel
theorem dX10_isThing_9 : decode cX10_isThing 9 = .ok (.ireturn, 1) := by decide +kernel
theorem dX10_isMinute_0 : decode cX10_isMinute 0 = .ok (.iload_n 0, 1) := by decide +kernel
theorem dX10_isMinute_1 : decode cX10_isMinute 1 = .ok (.i2l, 1) := by decide +kernel
theorem dX10_isMinute_2 : decode cX10_isMinute 2 = .ok (.lconst 0, 1) := by decide +kernel
theorem dX10_isMinute_3 : decode cX10_isMinute 3 = .ok (.ldc2_w 77, 3) := by decide +kernel
theorem dX10_isMinute_6 : decode cX10_isMinute 6 = .ok (.invokestatic 73, 3) := by decide +kernel
theorem dX10_isMinute_9 : decode cX10_isMinute 9 = .ok (.ireturn, 1) := by decide +kernel
theorem dX10_isRow_0 : decode cX10_isRow 0 = .ok (.iload_n 1, 1) := by decide +kernel
theorem dX10_isRow_1 : decode cX10_isRow 1 = .ok (.invokestatic 79, 3) := by decide +kernel
theorem dX10_isRow_4 : decode cX10_isRow 4 = .ok (.ifCond .eq 25, 3) := by decide +kernel
theorem dX10_isRow_7 : decode cX10_isRow 7 = .ok (.iload_n 2, 1) := by decide +kernel
theorem dX10_isRow_8 : decode cX10_isRow 8 = .ok (.i2l, 1) := by decide +kernel
theorem dX10_isRow_9 : decode cX10_isRow 9 = .ok (.lconst 0, 1) := by decide +kernel
theorem dX10_isRow_10 : decode cX10_isRow 10 = .ok (.aload_n 0, 1) := by decide +kernel
theorem dX10_isRow_11 : decode cX10_isRow 11 = .ok (.getfield 7, 3) := by decide +kernel
theorem dX10_isRow_14 : decode cX10_isRow 14 = .ok (.iload_n 1, 1) := by decide +kernel
theorem dX10_isRow_15 : decode cX10_isRow 15 = .ok (.iaload, 1) := by decide +kernel
theorem dX10_isRow_16 : decode cX10_isRow 16 = .ok (.iconst 1, 1) := by decide +kernel
theorem dX10_isRow_17 : decode cX10_isRow 17 = .ok (.isub, 1) := by decide +kernel
theorem dX10_isRow_18 : decode cX10_isRow 18 = .ok (.i2l, 1) := by decide +kernel
theorem dX10_isRow_19 : decode cX10_isRow 19 = .ok (.invokestatic 73, 3) := by decide +kernel
theorem dX10_isRow_22 : decode cX10_isRow 22 = .ok (.ifCond .eq 7, 3) := by decide +kernel
theorem dX10_isRow_25 : decode cX10_isRow 25 = .ok (.iconst 1, 1) := by decide +kernel
theorem dX10_isRow_26 : decode cX10_isRow 26 = .ok (.goto 4, 3) := by decide +kernel
theorem dX10_isRow_29 : decode cX10_isRow 29 = .ok (.iconst 0, 1) := by decide +kernel
theorem dX10_isRow_30 : decode cX10_isRow 30 = .ok (.ireturn, 1) := by decide +kernel
theorem dX10_say_0 : decode cX10_say 0 = .ok (.iload_n 1, 1) := by decide +kernel
theorem dX10_say_1 : decode cX10_say 1 = .ok (.invokestatic 79, 3) := by decide +kernel
theorem dX10_say_4 : decode cX10_say 4 = .ok (.ifCond .ne 6, 3) := by decide +kernel
theorem dX10_say_7 : decode cX10_say 7 = .ok (.ldc 83, 2) := by decide +kernel
theorem dX10_say_9 : decode cX10_say 9 = .ok (.ireturn, 1) := by decide +kernel
theorem dX10_say_10 : decode cX10_say 10 = .ok (.iload_n 2, 1) := by decide +kernel
theorem dX10_say_11 : decode cX10_say 11 = .ok (.invokestatic 84, 3) := by decide +kernel
theorem dX10_say_14 : decode cX10_say 14 = .ok (.ifCond .eq 28, 3) := by decide +kernel
theorem dX10_say_17 : decode cX10_say 17 = .ok (.iload_n 3, 1) := by decide +kernel
theorem dX10_say_18 : decode cX10_say 18 = .ok (.i2l, 1) := by decide +kernel
theorem dX10_say_19 : decode cX10_say 19 = .ok (.lconst 0, 1) := by decide +kernel
theorem dX10_say_20 : decode cX10_say 20 = .ok (.ldc2_w 87, 3) := by decide +kernel
theorem dX10_say_23 : decode cX10_say 23 = .ok (.invokestatic 73, 3) := by decide +kernel
theorem dX10_say_26 : decode cX10_say 26 = .ok (.ifCond .eq 16, 3) := by decide +kernel
theorem dX10_say_29 : decode cX10_say 29 = .ok (.iload 4, 2) := by decide +kernel
theorem dX10_say_31 : decode cX10_say 31 = .ok (.i2l, 1) := by decide +kernel
theorem dX10_say_32 : decode cX10_say 32 = .ok (.lconst 0, 1) := by decide +kernel
theorem dX10_say_33 : decode cX10_say 33 = .ok (.ldc2_w 87, 3) := by decide +kernel
theorem dX10_say_36 : decode cX10_say 36 = .ok (.invokestatic 73, 3) := by decide +kernel
theorem dX10_say_39 : decode cX10_say 39 = .ok (.ifCond .ne 6, 3) := by decide +kernel
theorem dX10_say_42 : decode cX10_say 42 = .ok (.ldc 89, 2) := by decide +kernel
theorem dX10_say_44 : decode cX10_say 44 = .ok (.ireturn, 1) := by decide +kernel
theorem dX10_say_45 : decode cX10_say 45 = .ok (.iconst 0, 1) := by decide +kernel
theorem dX10_say_46 : decode cX10_say 46 = .ok (.istore 5, 2) := by decide +kernel
theorem dX10_say_48 : decode cX10_say 48 = .ok (.iload 5, 2) := by decide +kernel
theorem dX10_say_50 : decode cX10_say 50 = .ok (.aload_n 0, 1) := by decide +kernel
theorem dX10_say_51 : decode cX10_say 51 = .ok (.getfield 7, 3) := by decide +kernel
theorem dX10_say_54 : decode cX10_say 54 = .ok (.iload_n 1, 1) := by decide +kernel
theorem dX10_say_55 : decode cX10_say 55 = .ok (.iaload, 1) := by decide +kernel
theorem dX10_say_56 : decode cX10_say 56 = .ok (.if_icmp .ge 25, 3) := by decide +kernel
theorem dX10_say_59 : decode cX10_say 59 = .ok (.aload_n 0, 1) := by decide +kernel
theorem dX10_say_60 : decode cX10_say 60 = .ok (.getfield 13, 3) := by decide +kernel
theorem dX10_say_63 : decode cX10_say 63 = .ok (.bipush 24, 2) := by decide +kernel
theorem dX10_say_65 : decode cX10_say 65 = .ok (.iload_n 1, 1) := by decide +kernel
theorem dX10_say_66 : decode cX10_say 66 = .ok (.imul, 1) := by decide +kernel
theorem dX10_say_67 : decode cX10_say 67 = .ok (.iload 5, 2) := by decide +kernel
theorem dX10_say_69 : decode cX10_say 69 = .ok (.iadd, 1) := by decide +kernel
theorem dX10_say_70 : decode cX10_say 70 = .ok (.iaload, 1) := by decide +kernel
theorem dX10_say_71 : decode cX10_say 71 = .ok (.iload_n 2, 1) := by decide +kernel
theorem dX10_say_72 : decode cX10_say 72 = .ok (.if_icmp .ge 9, 3) := by decide +kernel
theorem dX10_say_75 : decode cX10_say 75 = .ok (.iinc 5 1, 3) := by decide +kernel
theorem dX10_say_78 : decode cX10_say 78 = .ok (.goto (-30), 3) := by decide +kernel
theorem dX10_say_81 : decode cX10_say 81 = .ok (.iload 5, 2) := by decide +kernel
theorem dX10_say_83 : decode cX10_say 83 = .ok (.aload_n 0, 1) := by decide +kernel
theorem dX10_say_84 : decode cX10_say 84 = .ok (.getfield 7, 3) := by decide +kernel
theorem dX10_say_87 : decode cX10_say 87 = .ok (.iload_n 1, 1) := by decide +kernel
theorem dX10_say_88 : decode cX10_say 88 = .ok (.iaload, 1) := by decide +kernel
theorem dX10_say_89 : decode cX10_say 89 = .ok (.if_icmp .ge 23, 3) := by decide +kernel
theorem dX10_say_92 : decode cX10_say 92 = .ok (.aload_n 0, 1) := by decide +kernel
theorem dX10_say_93 : decode cX10_say 93 = .ok (.getfield 13, 3) := by decide +kernel
theorem dX10_say_96 : decode cX10_say 96 = .ok (.bipush 24, 2) := by decide +kernel
theorem dX10_say_98 : decode cX10_say 98 = .ok (.iload_n 1, 1) := by decide +kernel
theorem dX10_say_99 : decode cX10_say 99 = .ok (.imul, 1) := by decide +kernel
theorem dX10_say_100 : decode cX10_say 100 = .ok (.iload 5, 2) := by decide +kernel
theorem dX10_say_102 : decode cX10_say 102 = .ok (.iadd, 1) := by decide +kernel
theorem dX10_say_103 : decode cX10_say 103 = .ok (.iaload, 1) := by decide +kernel
theorem dX10_say_104 : decode cX10_say 104 = .ok (.iload_n 2, 1) := by decide +kernel
theorem dX10_say_105 : decode cX10_say 105 = .ok (.if_icmp .ne 7, 3) := by decide +kernel
theorem dX10_say_108 : decode cX10_say 108 = .ok (.iconst 1, 1) := by decide +kernel
theorem dX10_say_109 : decode cX10_say 109 = .ok (.goto 4, 3) := by decide +kernel
theorem dX10_say_112 : decode cX10_say 112 = .ok (.iconst 0, 1) := by decide +kernel
theorem dX10_say_113 : decode cX10_say 113 = .ok (.istore 6, 2) := by decide +kernel
theorem dX10_say_115 : decode cX10_say 115 = .ok (.iload 6, 2) := by decide +kernel
theorem dX10_say_117 : decode cX10_say 117 = .ok (.ifCond .ne 17, 3) := by decide +kernel
theorem dX10_say_120 : decode cX10_say 120 = .ok (.aload_n 0, 1) := by decide +kernel
theorem dX10_say_121 : decode cX10_say 121 = .ok (.getfield 7, 3) := by decide +kernel
theorem dX10_say_124 : decode cX10_say 124 = .ok (.iload_n 1, 1) := by decide +kernel
theorem dX10_say_125 : decode cX10_say 125 = .ok (.iaload, 1) := by decide +kernel
theorem dX10_say_126 : decode cX10_say 126 = .ok (.bipush 24, 2) := by decide +kernel
theorem dX10_say_128 : decode cX10_say 128 = .ok (.if_icmp .ne 6, 3) := by decide +kernel
theorem dX10_say_131 : decode cX10_say 131 = .ok (.ldc 90, 2) := by decide +kernel
theorem dX10_say_133 : decode cX10_say 133 = .ok (.ireturn, 1) := by decide +kernel
theorem dX10_say_134 : decode cX10_say 134 = .ok (.aload_n 0, 1) := by decide +kernel
theorem dX10_say_135 : decode cX10_say 135 = .ok (.getfield 7, 3) := by decide +kernel
theorem dX10_say_138 : decode cX10_say 138 = .ok (.iload_n 1, 1) := by decide +kernel
theorem dX10_say_139 : decode cX10_say 139 = .ok (.iaload, 1) := by decide +kernel
theorem dX10_say_140 : decode cX10_say 140 = .ok (.istore 7, 2) := by decide +kernel
theorem dX10_say_142 : decode cX10_say 142 = .ok (.iload 7, 2) := by decide +kernel
theorem dX10_say_144 : decode cX10_say 144 = .ok (.iload 5, 2) := by decide +kernel
theorem dX10_say_146 : decode cX10_say 146 = .ok (.if_icmp .le 25, 3) := by decide +kernel
theorem dX10_say_149 : decode cX10_say 149 = .ok (.iload 6, 2) := by decide +kernel
theorem dX10_say_151 : decode cX10_say 151 = .ok (.ifCond .ne 20, 3) := by decide +kernel
theorem dX10_say_154 : decode cX10_say 154 = .ok (.aload_n 0, 1) := by decide +kernel
theorem dX10_say_155 : decode cX10_say 155 = .ok (.iload_n 1, 1) := by decide +kernel
theorem dX10_say_156 : decode cX10_say 156 = .ok (.iload 7, 2) := by decide +kernel
theorem dX10_say_158 : decode cX10_say 158 = .ok (.iconst 1, 1) := by decide +kernel
theorem dX10_say_159 : decode cX10_say 159 = .ok (.isub, 1) := by decide +kernel
theorem dX10_say_160 : decode cX10_say 160 = .ok (.iload 7, 2) := by decide +kernel
theorem dX10_say_162 : decode cX10_say 162 = .ok (.invokevirtual 91, 3) := by decide +kernel
theorem dX10_say_165 : decode cX10_say 165 = .ok (.iinc 7 (-1), 3) := by decide +kernel
theorem dX10_say_168 : decode cX10_say 168 = .ok (.goto (-26), 3) := by decide +kernel
theorem dX10_say_171 : decode cX10_say 171 = .ok (.aload_n 0, 1) := by decide +kernel
theorem dX10_say_172 : decode cX10_say 172 = .ok (.getfield 13, 3) := by decide +kernel
theorem dX10_say_175 : decode cX10_say 175 = .ok (.bipush 24, 2) := by decide +kernel
theorem dX10_say_177 : decode cX10_say 177 = .ok (.iload_n 1, 1) := by decide +kernel
theorem dX10_say_178 : decode cX10_say 178 = .ok (.imul, 1) := by decide +kernel
theorem dX10_say_179 : decode cX10_say 179 = .ok (.iload 5, 2) := by decide +kernel
theorem dX10_say_181 : decode cX10_say 181 = .ok (.iadd, 1) := by decide +kernel
theorem dX10_say_182 : decode cX10_say 182 = .ok (.iload_n 2, 1) := by decide +kernel
theorem dX10_say_183 : decode cX10_say 183 = .ok (.iastore, 1) := by decide +kernel
theorem dX10_say_184 : decode cX10_say 184 = .ok (.aload_n 0, 1) := by decide +kernel
theorem dX10_say_185 : decode cX10_say 185 = .ok (.getfield 16, 3) := by decide +kernel
theorem dX10_say_188 : decode cX10_say 188 = .ok (.bipush 24, 2) := by decide +kernel
theorem dX10_say_190 : decode cX10_say 190 = .ok (.iload_n 1, 1) := by decide +kernel
theorem dX10_say_191 : decode cX10_say 191 = .ok (.imul, 1) := by decide +kernel
theorem dX10_say_192 : decode cX10_say 192 = .ok (.iload 5, 2) := by decide +kernel
theorem dX10_say_194 : decode cX10_say 194 = .ok (.iadd, 1) := by decide +kernel
theorem dX10_say_195 : decode cX10_say 195 = .ok (.iload_n 3, 1) := by decide +kernel
theorem dX10_say_196 : decode cX10_say 196 = .ok (.iastore, 1) := by decide +kernel
theorem dX10_say_197 : decode cX10_say 197 = .ok (.aload_n 0, 1) := by decide +kernel
theorem dX10_say_198 : decode cX10_say 198 = .ok (.getfield 19, 3) := by decide +kernel
theorem dX10_say_201 : decode cX10_say 201 = .ok (.bipush 24, 2) := by decide +kernel
theorem dX10_say_203 : decode cX10_say 203 = .ok (.iload_n 1, 1) := by decide +kernel
theorem dX10_say_204 : decode cX10_say 204 = .ok (.imul, 1) := by decide +kernel
theorem dX10_say_205 : decode cX10_say 205 = .ok (.iload 5, 2) := by decide +kernel
theorem dX10_say_207 : decode cX10_say 207 = .ok (.iadd, 1) := by decide +kernel
theorem dX10_say_208 : decode cX10_say 208 = .ok (.iload 4, 2) := by decide +kernel
theorem dX10_say_210 : decode cX10_say 210 = .ok (.iastore, 1) := by decide +kernel
theorem dX10_say_211 : decode cX10_say 211 = .ok (.aload_n 0, 1) := by decide +kernel
theorem dX10_say_212 : decode cX10_say 212 = .ok (.dup, 1) := by decide +kernel
theorem dX10_say_213 : decode cX10_say 213 = .ok (.getfield 95, 3) := by decide +kernel
theorem dX10_say_216 : decode cX10_say 216 = .ok (.iload 6, 2) := by decide +kernel
theorem dX10_say_218 : decode cX10_say 218 = .ok (.ifCond .eq 7, 3) := by decide +kernel
theorem dX10_say_221 : decode cX10_say 221 = .ok (.iconst 1, 1) := by decide +kernel
theorem dX10_say_222 : decode cX10_say 222 = .ok (.goto 4, 3) := by decide +kernel
theorem dX10_say_225 : decode cX10_say 225 = .ok (.iconst 0, 1) := by decide +kernel
theorem dX10_say_226 : decode cX10_say 226 = .ok (.iadd, 1) := by decide +kernel
theorem dX10_say_227 : decode cX10_say 227 = .ok (.putfield 95, 3) := by decide +kernel
theorem dX10_say_230 : decode cX10_say 230 = .ok (.aload_n 0, 1) := by decide +kernel
theorem dX10_say_231 : decode cX10_say 231 = .ok (.getfield 7, 3) := by decide +kernel
theorem dX10_say_234 : decode cX10_say 234 = .ok (.iload_n 1, 1) := by decide +kernel
theorem dX10_say_235 : decode cX10_say 235 = .ok (.dup2, 1) := by decide +kernel
theorem dX10_say_236 : decode cX10_say 236 = .ok (.iaload, 1) := by decide +kernel
theorem dX10_say_237 : decode cX10_say 237 = .ok (.iload 6, 2) := by decide +kernel
theorem dX10_say_239 : decode cX10_say 239 = .ok (.ifCond .eq 7, 3) := by decide +kernel
theorem dX10_say_242 : decode cX10_say 242 = .ok (.iconst 0, 1) := by decide +kernel
theorem dX10_say_243 : decode cX10_say 243 = .ok (.goto 4, 3) := by decide +kernel
theorem dX10_say_246 : decode cX10_say 246 = .ok (.iconst 1, 1) := by decide +kernel
theorem dX10_say_247 : decode cX10_say 247 = .ok (.iadd, 1) := by decide +kernel
theorem dX10_say_248 : decode cX10_say 248 = .ok (.iastore, 1) := by decide +kernel
theorem dX10_say_249 : decode cX10_say 249 = .ok (.aload_n 0, 1) := by decide +kernel
theorem dX10_say_250 : decode cX10_say 250 = .ok (.getfield 7, 3) := by decide +kernel
theorem dX10_say_253 : decode cX10_say 253 = .ok (.iload_n 1, 1) := by decide +kernel
theorem dX10_say_254 : decode cX10_say 254 = .ok (.iaload, 1) := by decide +kernel
theorem dX10_say_255 : decode cX10_say 255 = .ok (.ireturn, 1) := by decide +kernel
theorem dX10_move_0 : decode cX10_move 0 = .ok (.aload_n 0, 1) := by decide +kernel
theorem dX10_move_1 : decode cX10_move 1 = .ok (.getfield 13, 3) := by decide +kernel
theorem dX10_move_4 : decode cX10_move 4 = .ok (.bipush 24, 2) := by decide +kernel
theorem dX10_move_6 : decode cX10_move 6 = .ok (.iload_n 1, 1) := by decide +kernel
theorem dX10_move_7 : decode cX10_move 7 = .ok (.imul, 1) := by decide +kernel
theorem dX10_move_8 : decode cX10_move 8 = .ok (.iload_n 3, 1) := by decide +kernel
theorem dX10_move_9 : decode cX10_move 9 = .ok (.iadd, 1) := by decide +kernel
theorem dX10_move_10 : decode cX10_move 10 = .ok (.aload_n 0, 1) := by decide +kernel
theorem dX10_move_11 : decode cX10_move 11 = .ok (.getfield 13, 3) := by decide +kernel
theorem dX10_move_14 : decode cX10_move 14 = .ok (.bipush 24, 2) := by decide +kernel
theorem dX10_move_16 : decode cX10_move 16 = .ok (.iload_n 1, 1) := by decide +kernel
theorem dX10_move_17 : decode cX10_move 17 = .ok (.imul, 1) := by decide +kernel
theorem dX10_move_18 : decode cX10_move 18 = .ok (.iload_n 2, 1) := by decide +kernel
theorem dX10_move_19 : decode cX10_move 19 = .ok (.iadd, 1) := by decide +kernel
theorem dX10_move_20 : decode cX10_move 20 = .ok (.iaload, 1) := by decide +kernel
theorem dX10_move_21 : decode cX10_move 21 = .ok (.iastore, 1) := by decide +kernel
theorem dX10_move_22 : decode cX10_move 22 = .ok (.aload_n 0, 1) := by decide +kernel
theorem dX10_move_23 : decode cX10_move 23 = .ok (.getfield 16, 3) := by decide +kernel
theorem dX10_move_26 : decode cX10_move 26 = .ok (.bipush 24, 2) := by decide +kernel
theorem dX10_move_28 : decode cX10_move 28 = .ok (.iload_n 1, 1) := by decide +kernel
theorem dX10_move_29 : decode cX10_move 29 = .ok (.imul, 1) := by decide +kernel
theorem dX10_move_30 : decode cX10_move 30 = .ok (.iload_n 3, 1) := by decide +kernel
theorem dX10_move_31 : decode cX10_move 31 = .ok (.iadd, 1) := by decide +kernel
theorem dX10_move_32 : decode cX10_move 32 = .ok (.aload_n 0, 1) := by decide +kernel
theorem dX10_move_33 : decode cX10_move 33 = .ok (.getfield 16, 3) := by decide +kernel
theorem dX10_move_36 : decode cX10_move 36 = .ok (.bipush 24, 2) := by decide +kernel
theorem dX10_move_38 : decode cX10_move 38 = .ok (.iload_n 1, 1) := by decide +kernel
theorem dX10_move_39 : decode cX10_move 39 = .ok (.imul, 1) := by decide +kernel
theorem dX10_move_40 : decode cX10_move 40 = .ok (.iload_n 2, 1) := by decide +kernel
theorem dX10_move_41 : decode cX10_move 41 = .ok (.iadd, 1) := by decide +kernel
theorem dX10_move_42 : decode cX10_move 42 = .ok (.iaload, 1) := by decide +kernel
theorem dX10_move_43 : decode cX10_move 43 = .ok (.iastore, 1) := by decide +kernel
theorem dX10_move_44 : decode cX10_move 44 = .ok (.aload_n 0, 1) := by decide +kernel
theorem dX10_move_45 : decode cX10_move 45 = .ok (.getfield 19, 3) := by decide +kernel
theorem dX10_move_48 : decode cX10_move 48 = .ok (.bipush 24, 2) := by decide +kernel
theorem dX10_move_50 : decode cX10_move 50 = .ok (.iload_n 1, 1) := by decide +kernel
theorem dX10_move_51 : decode cX10_move 51 = .ok (.imul, 1) := by decide +kernel
theorem dX10_move_52 : decode cX10_move 52 = .ok (.iload_n 3, 1) := by decide +kernel
theorem dX10_move_53 : decode cX10_move 53 = .ok (.iadd, 1) := by decide +kernel
theorem dX10_move_54 : decode cX10_move 54 = .ok (.aload_n 0, 1) := by decide +kernel
theorem dX10_move_55 : decode cX10_move 55 = .ok (.getfield 19, 3) := by decide +kernel
theorem dX10_move_58 : decode cX10_move 58 = .ok (.bipush 24, 2) := by decide +kernel
theorem dX10_move_60 : decode cX10_move 60 = .ok (.iload_n 1, 1) := by decide +kernel
theorem dX10_move_61 : decode cX10_move 61 = .ok (.imul, 1) := by decide +kernel
theorem dX10_move_62 : decode cX10_move 62 = .ok (.iload_n 2, 1) := by decide +kernel
theorem dX10_move_63 : decode cX10_move 63 = .ok (.iadd, 1) := by decide +kernel
theorem dX10_move_64 : decode cX10_move 64 = .ok (.iaload, 1) := by decide +kernel
theorem dX10_move_65 : decode cX10_move 65 = .ok (.iastore, 1) := by decide +kernel
theorem dX10_move_66 : decode cX10_move 66 = .ok (.return_, 1) := by decide +kernel
theorem dX10_drop_0 : decode cX10_drop 0 = .ok (.aload_n 0, 1) := by decide +kernel
theorem dX10_drop_1 : decode cX10_drop 1 = .ok (.getfield 7, 3) := by decide +kernel
theorem dX10_drop_4 : decode cX10_drop 4 = .ok (.iload_n 1, 1) := by decide +kernel
theorem dX10_drop_5 : decode cX10_drop 5 = .ok (.dup2, 1) := by decide +kernel
theorem dX10_drop_6 : decode cX10_drop 6 = .ok (.iaload, 1) := by decide +kernel
theorem dX10_drop_7 : decode cX10_drop 7 = .ok (.iconst 1, 1) := by decide +kernel
theorem dX10_drop_8 : decode cX10_drop 8 = .ok (.isub, 1) := by decide +kernel
theorem dX10_drop_9 : decode cX10_drop 9 = .ok (.iastore, 1) := by decide +kernel
theorem dX10_drop_10 : decode cX10_drop 10 = .ok (.iload_n 2, 1) := by decide +kernel
theorem dX10_drop_11 : decode cX10_drop 11 = .ok (.istore_n 3, 1) := by decide +kernel
theorem dX10_drop_12 : decode cX10_drop 12 = .ok (.iload_n 3, 1) := by decide +kernel
theorem dX10_drop_13 : decode cX10_drop 13 = .ok (.aload_n 0, 1) := by decide +kernel
theorem dX10_drop_14 : decode cX10_drop 14 = .ok (.getfield 7, 3) := by decide +kernel
theorem dX10_drop_17 : decode cX10_drop 17 = .ok (.iload_n 1, 1) := by decide +kernel
theorem dX10_drop_18 : decode cX10_drop 18 = .ok (.iaload, 1) := by decide +kernel
theorem dX10_drop_19 : decode cX10_drop 19 = .ok (.if_icmp .ge 18, 3) := by decide +kernel
theorem dX10_drop_22 : decode cX10_drop 22 = .ok (.aload_n 0, 1) := by decide +kernel
theorem dX10_drop_23 : decode cX10_drop 23 = .ok (.iload_n 1, 1) := by decide +kernel
theorem dX10_drop_24 : decode cX10_drop 24 = .ok (.iload_n 3, 1) := by decide +kernel
theorem dX10_drop_25 : decode cX10_drop 25 = .ok (.iconst 1, 1) := by decide +kernel
theorem dX10_drop_26 : decode cX10_drop 26 = .ok (.iadd, 1) := by decide +kernel
theorem dX10_drop_27 : decode cX10_drop 27 = .ok (.iload_n 3, 1) := by decide +kernel
theorem dX10_drop_28 : decode cX10_drop 28 = .ok (.invokevirtual 91, 3) := by decide +kernel
theorem dX10_drop_31 : decode cX10_drop 31 = .ok (.iinc 3 1, 3) := by decide +kernel
theorem dX10_drop_34 : decode cX10_drop 34 = .ok (.goto (-22), 3) := by decide +kernel
theorem dX10_drop_37 : decode cX10_drop 37 = .ok (.return_, 1) := by decide +kernel
theorem dX10_forget_0 : decode cX10_forget 0 = .ok (.aload_n 0, 1) := by decide +kernel
theorem dX10_forget_1 : decode cX10_forget 1 = .ok (.iload_n 1, 1) := by decide +kernel
theorem dX10_forget_2 : decode cX10_forget 2 = .ok (.iload_n 2, 1) := by decide +kernel
theorem dX10_forget_3 : decode cX10_forget 3 = .ok (.invokevirtual 99, 3) := by decide +kernel
theorem dX10_forget_6 : decode cX10_forget 6 = .ok (.ifCond .ne 6, 3) := by decide +kernel
theorem dX10_forget_9 : decode cX10_forget 9 = .ok (.ldc 83, 2) := by decide +kernel
theorem dX10_forget_11 : decode cX10_forget 11 = .ok (.ireturn, 1) := by decide +kernel
theorem dX10_forget_12 : decode cX10_forget 12 = .ok (.aload_n 0, 1) := by decide +kernel
theorem dX10_forget_13 : decode cX10_forget 13 = .ok (.iload_n 1, 1) := by decide +kernel
theorem dX10_forget_14 : decode cX10_forget 14 = .ok (.iload_n 2, 1) := by decide +kernel
theorem dX10_forget_15 : decode cX10_forget 15 = .ok (.invokevirtual 103, 3) := by decide +kernel
theorem dX10_forget_18 : decode cX10_forget 18 = .ok (.aload_n 0, 1) := by decide +kernel
theorem dX10_forget_19 : decode cX10_forget 19 = .ok (.getfield 7, 3) := by decide +kernel
theorem dX10_forget_22 : decode cX10_forget 22 = .ok (.iload_n 1, 1) := by decide +kernel
theorem dX10_forget_23 : decode cX10_forget 23 = .ok (.iaload, 1) := by decide +kernel
theorem dX10_forget_24 : decode cX10_forget 24 = .ok (.ireturn, 1) := by decide +kernel
theorem dX10_kind_0 : decode cX10_kind 0 = .ok (.iload_n 1, 1) := by decide +kernel
theorem dX10_kind_1 : decode cX10_kind 1 = .ok (.invokestatic 79, 3) := by decide +kernel
theorem dX10_kind_4 : decode cX10_kind 4 = .ok (.ifCond .ne 6, 3) := by decide +kernel
theorem dX10_kind_7 : decode cX10_kind 7 = .ok (.ldc 83, 2) := by decide +kernel
theorem dX10_kind_9 : decode cX10_kind 9 = .ok (.ireturn, 1) := by decide +kernel
theorem dX10_kind_10 : decode cX10_kind 10 = .ok (.iload_n 2, 1) := by decide +kernel
theorem dX10_kind_11 : decode cX10_kind 11 = .ok (.i2l, 1) := by decide +kernel
theorem dX10_kind_12 : decode cX10_kind 12 = .ok (.lconst 0, 1) := by decide +kernel
theorem dX10_kind_13 : decode cX10_kind 13 = .ok (.lconst 1, 1) := by decide +kernel
theorem dX10_kind_14 : decode cX10_kind 14 = .ok (.invokestatic 73, 3) := by decide +kernel
theorem dX10_kind_17 : decode cX10_kind 17 = .ok (.ifCond .ne 6, 3) := by decide +kernel
theorem dX10_kind_20 : decode cX10_kind 20 = .ok (.ldc 89, 2) := by decide +kernel
theorem dX10_kind_22 : decode cX10_kind 22 = .ok (.ireturn, 1) := by decide +kernel
theorem dX10_kind_23 : decode cX10_kind 23 = .ok (.aload_n 0, 1) := by decide +kernel
theorem dX10_kind_24 : decode cX10_kind 24 = .ok (.getfield 22, 3) := by decide +kernel
theorem dX10_kind_27 : decode cX10_kind 27 = .ok (.iload_n 1, 1) := by decide +kernel
theorem dX10_kind_28 : decode cX10_kind 28 = .ok (.iaload, 1) := by decide +kernel
theorem dX10_kind_29 : decode cX10_kind 29 = .ok (.istore_n 3, 1) := by decide +kernel
theorem dX10_kind_30 : decode cX10_kind 30 = .ok (.aload_n 0, 1) := by decide +kernel
theorem dX10_kind_31 : decode cX10_kind 31 = .ok (.getfield 22, 3) := by decide +kernel
theorem dX10_kind_34 : decode cX10_kind 34 = .ok (.iload_n 1, 1) := by decide +kernel
theorem dX10_kind_35 : decode cX10_kind 35 = .ok (.iload_n 2, 1) := by decide +kernel
theorem dX10_kind_36 : decode cX10_kind 36 = .ok (.iastore, 1) := by decide +kernel
theorem dX10_kind_37 : decode cX10_kind 37 = .ok (.iload_n 3, 1) := by decide +kernel
theorem dX10_kind_38 : decode cX10_kind 38 = .ok (.ireturn, 1) := by decide +kernel
theorem dX10_row_0 : decode cX10_row 0 = .ok (.aload_n 0, 1) := by decide +kernel
theorem dX10_row_1 : decode cX10_row 1 = .ok (.iload_n 1, 1) := by decide +kernel
theorem dX10_row_2 : decode cX10_row 2 = .ok (.iload_n 2, 1) := by decide +kernel
theorem dX10_row_3 : decode cX10_row 3 = .ok (.invokevirtual 99, 3) := by decide +kernel
theorem dX10_row_6 : decode cX10_row 6 = .ok (.ifCond .ne 6, 3) := by decide +kernel
theorem dX10_row_9 : decode cX10_row 9 = .ok (.ldc 83, 2) := by decide +kernel
theorem dX10_row_11 : decode cX10_row 11 = .ok (.ireturn, 1) := by decide +kernel
theorem dX10_row_12 : decode cX10_row 12 = .ok (.bipush 24, 2) := by decide +kernel
theorem dX10_row_14 : decode cX10_row 14 = .ok (.iload_n 1, 1) := by decide +kernel
theorem dX10_row_15 : decode cX10_row 15 = .ok (.imul, 1) := by decide +kernel
theorem dX10_row_16 : decode cX10_row 16 = .ok (.iload_n 2, 1) := by decide +kernel
theorem dX10_row_17 : decode cX10_row 17 = .ok (.iadd, 1) := by decide +kernel
theorem dX10_row_18 : decode cX10_row 18 = .ok (.istore 4, 2) := by decide +kernel
theorem dX10_row_20 : decode cX10_row 20 = .ok (.iload_n 3, 1) := by decide +kernel
theorem dX10_row_21 : decode cX10_row 21 = .ok (.ifCond .ne 13, 3) := by decide +kernel
theorem dX10_row_24 : decode cX10_row 24 = .ok (.aload_n 0, 1) := by decide +kernel
theorem dX10_row_25 : decode cX10_row 25 = .ok (.getfield 13, 3) := by decide +kernel
theorem dX10_row_28 : decode cX10_row 28 = .ok (.iload 4, 2) := by decide +kernel
theorem dX10_row_30 : decode cX10_row 30 = .ok (.iaload, 1) := by decide +kernel
theorem dX10_row_31 : decode cX10_row 31 = .ok (.goto 35, 3) := by decide +kernel
theorem dX10_row_34 : decode cX10_row 34 = .ok (.iload_n 3, 1) := by decide +kernel
theorem dX10_row_35 : decode cX10_row 35 = .ok (.iconst 1, 1) := by decide +kernel
theorem dX10_row_36 : decode cX10_row 36 = .ok (.if_icmp .ne 13, 3) := by decide +kernel
theorem dX10_row_39 : decode cX10_row 39 = .ok (.aload_n 0, 1) := by decide +kernel
theorem dX10_row_40 : decode cX10_row 40 = .ok (.getfield 16, 3) := by decide +kernel
theorem dX10_row_43 : decode cX10_row 43 = .ok (.iload 4, 2) := by decide +kernel
theorem dX10_row_45 : decode cX10_row 45 = .ok (.iaload, 1) := by decide +kernel
theorem dX10_row_46 : decode cX10_row 46 = .ok (.goto 20, 3) := by decide +kernel
theorem dX10_row_49 : decode cX10_row 49 = .ok (.iload_n 3, 1) := by decide +kernel
theorem dX10_row_50 : decode cX10_row 50 = .ok (.iconst 2, 1) := by decide +kernel
theorem dX10_row_51 : decode cX10_row 51 = .ok (.if_icmp .ne 13, 3) := by decide +kernel
theorem dX10_row_54 : decode cX10_row 54 = .ok (.aload_n 0, 1) := by decide +kernel
theorem dX10_row_55 : decode cX10_row 55 = .ok (.getfield 19, 3) := by decide +kernel
theorem dX10_row_58 : decode cX10_row 58 = .ok (.iload 4, 2) := by decide +kernel
theorem dX10_row_60 : decode cX10_row 60 = .ok (.iaload, 1) := by decide +kernel
theorem dX10_row_61 : decode cX10_row 61 = .ok (.goto 5, 3) := by decide +kernel
theorem dX10_row_64 : decode cX10_row 64 = .ok (.ldc 89, 2) := by decide +kernel
theorem dX10_row_66 : decode cX10_row 66 = .ok (.ireturn, 1) := by decide +kernel
theorem dX10_isLeg_0 : decode cX10_isLeg 0 = .ok (.iload_n 2, 1) := by decide +kernel
theorem dX10_isLeg_1 : decode cX10_isLeg 1 = .ok (.ifCond .le 37, 3) := by decide +kernel
theorem dX10_isLeg_4 : decode cX10_isLeg 4 = .ok (.aload_n 0, 1) := by decide +kernel
theorem dX10_isLeg_5 : decode cX10_isLeg 5 = .ok (.getfield 13, 3) := by decide +kernel
theorem dX10_isLeg_8 : decode cX10_isLeg 8 = .ok (.bipush 24, 2) := by decide +kernel
theorem dX10_isLeg_10 : decode cX10_isLeg 10 = .ok (.iload_n 1, 1) := by decide +kernel
theorem dX10_isLeg_11 : decode cX10_isLeg 11 = .ok (.imul, 1) := by decide +kernel
theorem dX10_isLeg_12 : decode cX10_isLeg 12 = .ok (.iload_n 2, 1) := by decide +kernel
theorem dX10_isLeg_13 : decode cX10_isLeg 13 = .ok (.iadd, 1) := by decide +kernel
theorem dX10_isLeg_14 : decode cX10_isLeg 14 = .ok (.iaload, 1) := by decide +kernel
theorem dX10_isLeg_15 : decode cX10_isLeg 15 = .ok (.aload_n 0, 1) := by decide +kernel
theorem dX10_isLeg_16 : decode cX10_isLeg 16 = .ok (.getfield 13, 3) := by decide +kernel
theorem dX10_isLeg_19 : decode cX10_isLeg 19 = .ok (.bipush 24, 2) := by decide +kernel
theorem dX10_isLeg_21 : decode cX10_isLeg 21 = .ok (.iload_n 1, 1) := by decide +kernel
theorem dX10_isLeg_22 : decode cX10_isLeg 22 = .ok (.imul, 1) := by decide +kernel
theorem dX10_isLeg_23 : decode cX10_isLeg 23 = .ok (.iload_n 2, 1) := by decide +kernel
theorem dX10_isLeg_24 : decode cX10_isLeg 24 = .ok (.iadd, 1) := by decide +kernel
theorem dX10_isLeg_25 : decode cX10_isLeg 25 = .ok (.iconst 1, 1) := by decide +kernel
theorem dX10_isLeg_26 : decode cX10_isLeg 26 = .ok (.isub, 1) := by decide +kernel
theorem dX10_isLeg_27 : decode cX10_isLeg 27 = .ok (.iaload, 1) := by decide +kernel
theorem dX10_isLeg_28 : decode cX10_isLeg 28 = .ok (.isub, 1) := by decide +kernel
theorem dX10_isLeg_29 : decode cX10_isLeg 29 = .ok (.bipush 16, 2) := by decide +kernel
theorem dX10_isLeg_31 : decode cX10_isLeg 31 = .ok (.if_icmp .gt 7, 3) := by decide +kernel
theorem dX10_isLeg_34 : decode cX10_isLeg 34 = .ok (.iconst 1, 1) := by decide +kernel
theorem dX10_isLeg_35 : decode cX10_isLeg 35 = .ok (.goto 4, 3) := by decide +kernel
theorem dX10_isLeg_38 : decode cX10_isLeg 38 = .ok (.iconst 0, 1) := by decide +kernel
theorem dX10_isLeg_39 : decode cX10_isLeg 39 = .ok (.ireturn, 1) := by decide +kernel
theorem dX10_stand_0 : decode cX10_stand 0 = .ok (.aload_n 0, 1) := by decide +kernel
theorem dX10_stand_1 : decode cX10_stand 1 = .ok (.aload_n 0, 1) := by decide +kernel
theorem dX10_stand_2 : decode cX10_stand 2 = .ok (.getfield 16, 3) := by decide +kernel
theorem dX10_stand_5 : decode cX10_stand 5 = .ok (.bipush 24, 2) := by decide +kernel
theorem dX10_stand_7 : decode cX10_stand 7 = .ok (.iload_n 1, 1) := by decide +kernel
theorem dX10_stand_8 : decode cX10_stand 8 = .ok (.imul, 1) := by decide +kernel
theorem dX10_stand_9 : decode cX10_stand 9 = .ok (.iload_n 2, 1) := by decide +kernel
theorem dX10_stand_10 : decode cX10_stand 10 = .ok (.iadd, 1) := by decide +kernel
theorem dX10_stand_11 : decode cX10_stand 11 = .ok (.iaload, 1) := by decide +kernel
theorem dX10_stand_12 : decode cX10_stand 12 = .ok (.i2l, 1) := by decide +kernel
theorem dX10_stand_13 : decode cX10_stand 13 = .ok (.putfield 107, 3) := by decide +kernel
theorem dX10_stand_16 : decode cX10_stand 16 = .ok (.aload_n 0, 1) := by decide +kernel
theorem dX10_stand_17 : decode cX10_stand 17 = .ok (.aload_n 0, 1) := by decide +kernel
theorem dX10_stand_18 : decode cX10_stand 18 = .ok (.getfield 19, 3) := by decide +kernel
theorem dX10_stand_21 : decode cX10_stand 21 = .ok (.bipush 24, 2) := by decide +kernel
theorem dX10_stand_23 : decode cX10_stand 23 = .ok (.iload_n 1, 1) := by decide +kernel
theorem dX10_stand_24 : decode cX10_stand 24 = .ok (.imul, 1) := by decide +kernel
theorem dX10_stand_25 : decode cX10_stand 25 = .ok (.iload_n 2, 1) := by decide +kernel
theorem dX10_stand_26 : decode cX10_stand 26 = .ok (.iadd, 1) := by decide +kernel
theorem dX10_stand_27 : decode cX10_stand 27 = .ok (.iaload, 1) := by decide +kernel
theorem dX10_stand_28 : decode cX10_stand 28 = .ok (.i2l, 1) := by decide +kernel
theorem dX10_stand_29 : decode cX10_stand 29 = .ok (.putfield 111, 3) := by decide +kernel
theorem dX10_stand_32 : decode cX10_stand 32 = .ok (.aload_n 0, 1) := by decide +kernel
theorem dX10_stand_33 : decode cX10_stand 33 = .ok (.lconst 1, 1) := by decide +kernel
theorem dX10_stand_34 : decode cX10_stand 34 = .ok (.putfield 114, 3) := by decide +kernel
theorem dX10_stand_37 : decode cX10_stand 37 = .ok (.return_, 1) := by decide +kernel
theorem dX10_goBy_0 : decode cX10_goBy 0 = .ok (.bipush 24, 2) := by decide +kernel
theorem dX10_goBy_2 : decode cX10_goBy 2 = .ok (.iload_n 1, 1) := by decide +kernel
theorem dX10_goBy_3 : decode cX10_goBy 3 = .ok (.imul, 1) := by decide +kernel
theorem dX10_goBy_4 : decode cX10_goBy 4 = .ok (.iload_n 2, 1) := by decide +kernel
theorem dX10_goBy_5 : decode cX10_goBy 5 = .ok (.iadd, 1) := by decide +kernel
theorem dX10_goBy_6 : decode cX10_goBy 6 = .ok (.istore 4, 2) := by decide +kernel
theorem dX10_goBy_8 : decode cX10_goBy 8 = .ok (.iload_n 3, 1) := by decide +kernel
theorem dX10_goBy_9 : decode cX10_goBy 9 = .ok (.aload_n 0, 1) := by decide +kernel
theorem dX10_goBy_10 : decode cX10_goBy 10 = .ok (.getfield 13, 3) := by decide +kernel
theorem dX10_goBy_13 : decode cX10_goBy 13 = .ok (.iload 4, 2) := by decide +kernel
theorem dX10_goBy_15 : decode cX10_goBy 15 = .ok (.iconst 1, 1) := by decide +kernel
theorem dX10_goBy_16 : decode cX10_goBy 16 = .ok (.isub, 1) := by decide +kernel
theorem dX10_goBy_17 : decode cX10_goBy 17 = .ok (.iaload, 1) := by decide +kernel
theorem dX10_goBy_18 : decode cX10_goBy 18 = .ok (.isub, 1) := by decide +kernel
theorem dX10_goBy_19 : decode cX10_goBy 19 = .ok (.i2l, 1) := by decide +kernel
theorem dX10_goBy_20 : decode cX10_goBy 20 = .ok (.lstore 5, 2) := by decide +kernel
theorem dX10_goBy_22 : decode cX10_goBy 22 = .ok (.aload_n 0, 1) := by decide +kernel
theorem dX10_goBy_23 : decode cX10_goBy 23 = .ok (.aload_n 0, 1) := by decide +kernel
theorem dX10_goBy_24 : decode cX10_goBy 24 = .ok (.getfield 13, 3) := by decide +kernel
theorem dX10_goBy_27 : decode cX10_goBy 27 = .ok (.iload 4, 2) := by decide +kernel
theorem dX10_goBy_29 : decode cX10_goBy 29 = .ok (.iaload, 1) := by decide +kernel
theorem dX10_goBy_30 : decode cX10_goBy 30 = .ok (.aload_n 0, 1) := by decide +kernel
theorem dX10_goBy_31 : decode cX10_goBy 31 = .ok (.getfield 13, 3) := by decide +kernel
theorem dX10_goBy_34 : decode cX10_goBy 34 = .ok (.iload 4, 2) := by decide +kernel
theorem dX10_goBy_36 : decode cX10_goBy 36 = .ok (.iconst 1, 1) := by decide +kernel
theorem dX10_goBy_37 : decode cX10_goBy 37 = .ok (.isub, 1) := by decide +kernel
theorem dX10_goBy_38 : decode cX10_goBy 38 = .ok (.iaload, 1) := by decide +kernel
theorem dX10_goBy_39 : decode cX10_goBy 39 = .ok (.isub, 1) := by decide +kernel
theorem dX10_goBy_40 : decode cX10_goBy 40 = .ok (.i2l, 1) := by decide +kernel
theorem dX10_goBy_41 : decode cX10_goBy 41 = .ok (.putfield 114, 3) := by decide +kernel
theorem dX10_goBy_44 : decode cX10_goBy 44 = .ok (.aload_n 0, 1) := by decide +kernel
theorem dX10_goBy_45 : decode cX10_goBy 45 = .ok (.aload_n 0, 1) := by decide +kernel
theorem dX10_goBy_46 : decode cX10_goBy 46 = .ok (.getfield 16, 3) := by decide +kernel
theorem dX10_goBy_49 : decode cX10_goBy 49 = .ok (.iload 4, 2) := by decide +kernel
theorem dX10_goBy_51 : decode cX10_goBy 51 = .ok (.iconst 1, 1) := by decide +kernel
theorem dX10_goBy_52 : decode cX10_goBy 52 = .ok (.isub, 1) := by decide +kernel
theorem dX10_goBy_53 : decode cX10_goBy 53 = .ok (.iaload, 1) := by decide +kernel
theorem dX10_goBy_54 : decode cX10_goBy 54 = .ok (.i2l, 1) := by decide +kernel
theorem dX10_goBy_55 : decode cX10_goBy 55 = .ok (.aload_n 0, 1) := by decide +kernel
theorem dX10_goBy_56 : decode cX10_goBy 56 = .ok (.getfield 114, 3) := by decide +kernel
theorem dX10_goBy_59 : decode cX10_goBy 59 = .ok (.lmul, 1) := by decide +kernel
theorem dX10_goBy_60 : decode cX10_goBy 60 = .ok (.aload_n 0, 1) := by decide +kernel
theorem dX10_goBy_61 : decode cX10_goBy 61 = .ok (.getfield 16, 3) := by decide +kernel
theorem dX10_goBy_64 : decode cX10_goBy 64 = .ok (.iload 4, 2) := by decide +kernel
theorem dX10_goBy_66 : decode cX10_goBy 66 = .ok (.iaload, 1) := by decide +kernel
theorem dX10_goBy_67 : decode cX10_goBy 67 = .ok (.aload_n 0, 1) := by decide +kernel
theorem dX10_goBy_68 : decode cX10_goBy 68 = .ok (.getfield 16, 3) := by decide +kernel
theorem dX10_goBy_71 : decode cX10_goBy 71 = .ok (.iload 4, 2) := by decide +kernel
theorem dX10_goBy_73 : decode cX10_goBy 73 = .ok (.iconst 1, 1) := by decide +kernel
theorem dX10_goBy_74 : decode cX10_goBy 74 = .ok (.isub, 1) := by decide +kernel
theorem dX10_goBy_75 : decode cX10_goBy 75 = .ok (.iaload, 1) := by decide +kernel
theorem dX10_goBy_76 : decode cX10_goBy 76 = .ok (.isub, 1) := by decide +kernel
theorem dX10_goBy_77 : decode cX10_goBy 77 = .ok (.i2l, 1) := by decide +kernel
theorem dX10_goBy_78 : decode cX10_goBy 78 = .ok (.lload 5, 2) := by decide +kernel
theorem dX10_goBy_80 : decode cX10_goBy 80 = .ok (.lmul, 1) := by decide +kernel
theorem dX10_goBy_81 : decode cX10_goBy 81 = .ok (.ladd, 1) := by decide +kernel
theorem dX10_goBy_82 : decode cX10_goBy 82 = .ok (.putfield 107, 3) := by decide +kernel
theorem dX10_goBy_85 : decode cX10_goBy 85 = .ok (.aload_n 0, 1) := by decide +kernel
theorem dX10_goBy_86 : decode cX10_goBy 86 = .ok (.aload_n 0, 1) := by decide +kernel
theorem dX10_goBy_87 : decode cX10_goBy 87 = .ok (.getfield 19, 3) := by decide +kernel
theorem dX10_goBy_90 : decode cX10_goBy 90 = .ok (.iload 4, 2) := by decide +kernel
theorem dX10_goBy_92 : decode cX10_goBy 92 = .ok (.iconst 1, 1) := by decide +kernel
theorem dX10_goBy_93 : decode cX10_goBy 93 = .ok (.isub, 1) := by decide +kernel
theorem dX10_goBy_94 : decode cX10_goBy 94 = .ok (.iaload, 1) := by decide +kernel
theorem dX10_goBy_95 : decode cX10_goBy 95 = .ok (.i2l, 1) := by decide +kernel
theorem dX10_goBy_96 : decode cX10_goBy 96 = .ok (.aload_n 0, 1) := by decide +kernel
theorem dX10_goBy_97 : decode cX10_goBy 97 = .ok (.getfield 114, 3) := by decide +kernel
theorem dX10_goBy_100 : decode cX10_goBy 100 = .ok (.lmul, 1) := by decide +kernel
theorem dX10_goBy_101 : decode cX10_goBy 101 = .ok (.aload_n 0, 1) := by decide +kernel
theorem dX10_goBy_102 : decode cX10_goBy 102 = .ok (.getfield 19, 3) := by decide +kernel
theorem dX10_goBy_105 : decode cX10_goBy 105 = .ok (.iload 4, 2) := by decide +kernel
theorem dX10_goBy_107 : decode cX10_goBy 107 = .ok (.iaload, 1) := by decide +kernel
theorem dX10_goBy_108 : decode cX10_goBy 108 = .ok (.aload_n 0, 1) := by decide +kernel
theorem dX10_goBy_109 : decode cX10_goBy 109 = .ok (.getfield 19, 3) := by decide +kernel
theorem dX10_goBy_112 : decode cX10_goBy 112 = .ok (.iload 4, 2) := by decide +kernel
theorem dX10_goBy_114 : decode cX10_goBy 114 = .ok (.iconst 1, 1) := by decide +kernel
theorem dX10_goBy_115 : decode cX10_goBy 115 = .ok (.isub, 1) := by decide +kernel
theorem dX10_goBy_116 : decode cX10_goBy 116 = .ok (.iaload, 1) := by decide +kernel
theorem dX10_goBy_117 : decode cX10_goBy 117 = .ok (.isub, 1) := by decide +kernel
theorem dX10_goBy_118 : decode cX10_goBy 118 = .ok (.i2l, 1) := by decide +kernel
theorem dX10_goBy_119 : decode cX10_goBy 119 = .ok (.lload 5, 2) := by decide +kernel
theorem dX10_goBy_121 : decode cX10_goBy 121 = .ok (.lmul, 1) := by decide +kernel
theorem dX10_goBy_122 : decode cX10_goBy 122 = .ok (.ladd, 1) := by decide +kernel
theorem dX10_goBy_123 : decode cX10_goBy 123 = .ok (.putfield 111, 3) := by decide +kernel
theorem dX10_goBy_126 : decode cX10_goBy 126 = .ok (.return_, 1) := by decide +kernel
theorem dX10_find_0 : decode cX10_find 0 = .ok (.iconst 0, 1) := by decide +kernel
theorem dX10_find_1 : decode cX10_find 1 = .ok (.istore_n 3, 1) := by decide +kernel
theorem dX10_find_2 : decode cX10_find 2 = .ok (.iload_n 3, 1) := by decide +kernel
theorem dX10_find_3 : decode cX10_find 3 = .ok (.aload_n 0, 1) := by decide +kernel
theorem dX10_find_4 : decode cX10_find 4 = .ok (.getfield 7, 3) := by decide +kernel
theorem dX10_find_7 : decode cX10_find 7 = .ok (.iload_n 1, 1) := by decide +kernel
theorem dX10_find_8 : decode cX10_find 8 = .ok (.iaload, 1) := by decide +kernel
theorem dX10_find_9 : decode cX10_find 9 = .ok (.if_icmp .ge 24, 3) := by decide +kernel
theorem dX10_find_12 : decode cX10_find 12 = .ok (.aload_n 0, 1) := by decide +kernel
theorem dX10_find_13 : decode cX10_find 13 = .ok (.getfield 13, 3) := by decide +kernel
theorem dX10_find_16 : decode cX10_find 16 = .ok (.bipush 24, 2) := by decide +kernel
theorem dX10_find_18 : decode cX10_find 18 = .ok (.iload_n 1, 1) := by decide +kernel
theorem dX10_find_19 : decode cX10_find 19 = .ok (.imul, 1) := by decide +kernel
theorem dX10_find_20 : decode cX10_find 20 = .ok (.iload_n 3, 1) := by decide +kernel
theorem dX10_find_21 : decode cX10_find 21 = .ok (.iadd, 1) := by decide +kernel
theorem dX10_find_22 : decode cX10_find 22 = .ok (.iaload, 1) := by decide +kernel
theorem dX10_find_23 : decode cX10_find 23 = .ok (.iload_n 2, 1) := by decide +kernel
theorem dX10_find_24 : decode cX10_find 24 = .ok (.if_icmp .ge 9, 3) := by decide +kernel
theorem dX10_find_27 : decode cX10_find 27 = .ok (.iinc 3 1, 3) := by decide +kernel
theorem dX10_find_30 : decode cX10_find 30 = .ok (.goto (-28), 3) := by decide +kernel
theorem dX10_find_33 : decode cX10_find 33 = .ok (.iload_n 3, 1) := by decide +kernel
theorem dX10_find_34 : decode cX10_find 34 = .ok (.aload_n 0, 1) := by decide +kernel
theorem dX10_find_35 : decode cX10_find 35 = .ok (.getfield 7, 3) := by decide +kernel
theorem dX10_find_38 : decode cX10_find 38 = .ok (.iload_n 1, 1) := by decide +kernel
theorem dX10_find_39 : decode cX10_find 39 = .ok (.iaload, 1) := by decide +kernel
theorem dX10_find_40 : decode cX10_find 40 = .ok (.if_icmp .ge 46, 3) := by decide +kernel
theorem dX10_find_43 : decode cX10_find 43 = .ok (.aload_n 0, 1) := by decide +kernel
theorem dX10_find_44 : decode cX10_find 44 = .ok (.getfield 13, 3) := by decide +kernel
theorem dX10_find_47 : decode cX10_find 47 = .ok (.bipush 24, 2) := by decide +kernel
theorem dX10_find_49 : decode cX10_find 49 = .ok (.iload_n 1, 1) := by decide +kernel
theorem dX10_find_50 : decode cX10_find 50 = .ok (.imul, 1) := by decide +kernel
theorem dX10_find_51 : decode cX10_find 51 = .ok (.iload_n 3, 1) := by decide +kernel
theorem dX10_find_52 : decode cX10_find 52 = .ok (.iadd, 1) := by decide +kernel
theorem dX10_find_53 : decode cX10_find 53 = .ok (.iaload, 1) := by decide +kernel
theorem dX10_find_54 : decode cX10_find 54 = .ok (.iload_n 2, 1) := by decide +kernel
theorem dX10_find_55 : decode cX10_find 55 = .ok (.if_icmp .ne 11, 3) := by decide +kernel
theorem dX10_find_58 : decode cX10_find 58 = .ok (.aload_n 0, 1) := by decide +kernel
theorem dX10_find_59 : decode cX10_find 59 = .ok (.iload_n 1, 1) := by decide +kernel
theorem dX10_find_60 : decode cX10_find 60 = .ok (.iload_n 3, 1) := by decide +kernel
theorem dX10_find_61 : decode cX10_find 61 = .ok (.invokevirtual 117, 3) := by decide +kernel
theorem dX10_find_64 : decode cX10_find 64 = .ok (.iconst 1, 1) := by decide +kernel
theorem dX10_find_65 : decode cX10_find 65 = .ok (.ireturn, 1) := by decide +kernel
theorem dX10_find_66 : decode cX10_find 66 = .ok (.aload_n 0, 1) := by decide +kernel
theorem dX10_find_67 : decode cX10_find 67 = .ok (.iload_n 1, 1) := by decide +kernel
theorem dX10_find_68 : decode cX10_find 68 = .ok (.iload_n 3, 1) := by decide +kernel
theorem dX10_find_69 : decode cX10_find 69 = .ok (.invokevirtual 120, 3) := by decide +kernel
theorem dX10_find_72 : decode cX10_find 72 = .ok (.ifCond .eq 12, 3) := by decide +kernel
theorem dX10_find_75 : decode cX10_find 75 = .ok (.aload_n 0, 1) := by decide +kernel
theorem dX10_find_76 : decode cX10_find 76 = .ok (.iload_n 1, 1) := by decide +kernel
theorem dX10_find_77 : decode cX10_find 77 = .ok (.iload_n 3, 1) := by decide +kernel
theorem dX10_find_78 : decode cX10_find 78 = .ok (.iload_n 2, 1) := by decide +kernel
theorem dX10_find_79 : decode cX10_find 79 = .ok (.invokevirtual 123, 3) := by decide +kernel
theorem dX10_find_82 : decode cX10_find 82 = .ok (.iconst 1, 1) := by decide +kernel
theorem dX10_find_83 : decode cX10_find 83 = .ok (.ireturn, 1) := by decide +kernel
theorem dX10_find_84 : decode cX10_find 84 = .ok (.iconst 0, 1) := by decide +kernel
theorem dX10_find_85 : decode cX10_find 85 = .ok (.ireturn, 1) := by decide +kernel
theorem dX10_find_86 : decode cX10_find 86 = .ok (.iload_n 3, 1) := by decide +kernel
theorem dX10_find_87 : decode cX10_find 87 = .ok (.ifCond .eq 23, 3) := by decide +kernel
theorem dX10_find_90 : decode cX10_find 90 = .ok (.iload_n 2, 1) := by decide +kernel
theorem dX10_find_91 : decode cX10_find 91 = .ok (.aload_n 0, 1) := by decide +kernel
theorem dX10_find_92 : decode cX10_find 92 = .ok (.getfield 13, 3) := by decide +kernel
theorem dX10_find_95 : decode cX10_find 95 = .ok (.bipush 24, 2) := by decide +kernel
theorem dX10_find_97 : decode cX10_find 97 = .ok (.iload_n 1, 1) := by decide +kernel
theorem dX10_find_98 : decode cX10_find 98 = .ok (.imul, 1) := by decide +kernel
theorem dX10_find_99 : decode cX10_find 99 = .ok (.iload_n 3, 1) := by decide +kernel
theorem dX10_find_100 : decode cX10_find 100 = .ok (.iadd, 1) := by decide +kernel
theorem dX10_find_101 : decode cX10_find 101 = .ok (.iconst 1, 1) := by decide +kernel
theorem dX10_find_102 : decode cX10_find 102 = .ok (.isub, 1) := by decide +kernel
theorem dX10_find_103 : decode cX10_find 103 = .ok (.iaload, 1) := by decide +kernel
theorem dX10_find_104 : decode cX10_find 104 = .ok (.isub, 1) := by decide +kernel
theorem dX10_find_105 : decode cX10_find 105 = .ok (.bipush 16, 2) := by decide +kernel
theorem dX10_find_107 : decode cX10_find 107 = .ok (.if_icmp .le 5, 3) := by decide +kernel
theorem dX10_find_110 : decode cX10_find 110 = .ok (.iconst 0, 1) := by decide +kernel
theorem dX10_find_111 : decode cX10_find 111 = .ok (.ireturn, 1) := by decide +kernel
theorem dX10_find_112 : decode cX10_find 112 = .ok (.aload_n 0, 1) := by decide +kernel
theorem dX10_find_113 : decode cX10_find 113 = .ok (.getfield 22, 3) := by decide +kernel
theorem dX10_find_116 : decode cX10_find 116 = .ok (.iload_n 1, 1) := by decide +kernel
theorem dX10_find_117 : decode cX10_find 117 = .ok (.iaload, 1) := by decide +kernel
theorem dX10_find_118 : decode cX10_find 118 = .ok (.iconst 1, 1) := by decide +kernel
theorem dX10_find_119 : decode cX10_find 119 = .ok (.if_icmp .ne 26, 3) := by decide +kernel
theorem dX10_find_122 : decode cX10_find 122 = .ok (.aload_n 0, 1) := by decide +kernel
theorem dX10_find_123 : decode cX10_find 123 = .ok (.iload_n 1, 1) := by decide +kernel
theorem dX10_find_124 : decode cX10_find 124 = .ok (.iload_n 3, 1) := by decide +kernel
theorem dX10_find_125 : decode cX10_find 125 = .ok (.iconst 1, 1) := by decide +kernel
theorem dX10_find_126 : decode cX10_find 126 = .ok (.isub, 1) := by decide +kernel
theorem dX10_find_127 : decode cX10_find 127 = .ok (.invokevirtual 120, 3) := by decide +kernel
theorem dX10_find_130 : decode cX10_find 130 = .ok (.ifCond .eq 15, 3) := by decide +kernel
theorem dX10_find_133 : decode cX10_find 133 = .ok (.aload_n 0, 1) := by decide +kernel
theorem dX10_find_134 : decode cX10_find 134 = .ok (.iload_n 1, 1) := by decide +kernel
theorem dX10_find_135 : decode cX10_find 135 = .ok (.iload_n 3, 1) := by decide +kernel
theorem dX10_find_136 : decode cX10_find 136 = .ok (.iconst 1, 1) := by decide +kernel
theorem dX10_find_137 : decode cX10_find 137 = .ok (.isub, 1) := by decide +kernel
theorem dX10_find_138 : decode cX10_find 138 = .ok (.iload_n 2, 1) := by decide +kernel
theorem dX10_find_139 : decode cX10_find 139 = .ok (.invokevirtual 123, 3) := by decide +kernel
theorem dX10_find_142 : decode cX10_find 142 = .ok (.goto 11, 3) := by decide +kernel
theorem dX10_find_145 : decode cX10_find 145 = .ok (.aload_n 0, 1) := by decide +kernel
theorem dX10_find_146 : decode cX10_find 146 = .ok (.iload_n 1, 1) := by decide +kernel
theorem dX10_find_147 : decode cX10_find 147 = .ok (.iload_n 3, 1) := by decide +kernel
theorem dX10_find_148 : decode cX10_find 148 = .ok (.iconst 1, 1) := by decide +kernel
theorem dX10_find_149 : decode cX10_find 149 = .ok (.isub, 1) := by decide +kernel
theorem dX10_find_150 : decode cX10_find 150 = .ok (.invokevirtual 117, 3) := by decide +kernel
theorem dX10_find_153 : decode cX10_find 153 = .ok (.iconst 1, 1) := by decide +kernel
theorem dX10_find_154 : decode cX10_find 154 = .ok (.ireturn, 1) := by decide +kernel
theorem dX10_common_0 : decode cX10_common 0 = .ok (.lload_n 0, 1) := by decide +kernel
theorem dX10_common_1 : decode cX10_common 1 = .ok (.lconst 0, 1) := by decide +kernel
theorem dX10_common_2 : decode cX10_common 2 = .ok (.lcmp, 1) := by decide +kernel
theorem dX10_common_3 : decode cX10_common 3 = .ok (.ifCond .ge 8, 3) := by decide +kernel
theorem dX10_common_6 : decode cX10_common 6 = .ok (.lload_n 0, 1) := by decide +kernel
theorem dX10_common_7 : decode cX10_common 7 = .ok (.lneg, 1) := by decide +kernel
theorem dX10_common_8 : decode cX10_common 8 = .ok (.goto 4, 3) := by decide +kernel
theorem dX10_common_11 : decode cX10_common 11 = .ok (.lload_n 0, 1) := by decide +kernel
theorem dX10_common_12 : decode cX10_common 12 = .ok (.lstore 4, 2) := by decide +kernel
theorem dX10_common_14 : decode cX10_common 14 = .ok (.lload_n 2, 1) := by decide +kernel
theorem dX10_common_15 : decode cX10_common 15 = .ok (.lstore 6, 2) := by decide +kernel
theorem dX10_common_17 : decode cX10_common 17 = .ok (.lload 6, 2) := by decide +kernel
theorem dX10_common_19 : decode cX10_common 19 = .ok (.lconst 0, 1) := by decide +kernel
theorem dX10_common_20 : decode cX10_common 20 = .ok (.lcmp, 1) := by decide +kernel
theorem dX10_common_21 : decode cX10_common 21 = .ok (.ifCond .eq 21, 3) := by decide +kernel
theorem dX10_common_24 : decode cX10_common 24 = .ok (.lload 4, 2) := by decide +kernel
theorem dX10_common_26 : decode cX10_common 26 = .ok (.lload 6, 2) := by decide +kernel
theorem dX10_common_28 : decode cX10_common 28 = .ok (.lrem, 1) := by decide +kernel
theorem dX10_common_29 : decode cX10_common 29 = .ok (.lstore 8, 2) := by decide +kernel
theorem dX10_common_31 : decode cX10_common 31 = .ok (.lload 6, 2) := by decide +kernel
theorem dX10_common_33 : decode cX10_common 33 = .ok (.lstore 4, 2) := by decide +kernel
theorem dX10_common_35 : decode cX10_common 35 = .ok (.lload 8, 2) := by decide +kernel
theorem dX10_common_37 : decode cX10_common 37 = .ok (.lstore 6, 2) := by decide +kernel
theorem dX10_common_39 : decode cX10_common 39 = .ok (.goto (-22), 3) := by decide +kernel
theorem dX10_common_42 : decode cX10_common 42 = .ok (.lload 4, 2) := by decide +kernel
theorem dX10_common_44 : decode cX10_common 44 = .ok (.lreturn, 1) := by decide +kernel
theorem dX10_told_0 : decode cX10_told 0 = .ok (.lload_n 0, 1) := by decide +kernel
theorem dX10_told_1 : decode cX10_told 1 = .ok (.lload_n 2, 1) := by decide +kernel
theorem dX10_told_2 : decode cX10_told 2 = .ok (.invokestatic 126, 3) := by decide +kernel
theorem dX10_told_5 : decode cX10_told 5 = .ok (.lstore 5, 2) := by decide +kernel
theorem dX10_told_7 : decode cX10_told 7 = .ok (.iload 4, 2) := by decide +kernel
theorem dX10_told_9 : decode cX10_told 9 = .ok (.ifCond .eq 10, 3) := by decide +kernel
theorem dX10_told_12 : decode cX10_told 12 = .ok (.lload_n 0, 1) := by decide +kernel
theorem dX10_told_13 : decode cX10_told 13 = .ok (.lload 5, 2) := by decide +kernel
theorem dX10_told_15 : decode cX10_told 15 = .ok (.ldiv, 1) := by decide +kernel
theorem dX10_told_16 : decode cX10_told 16 = .ok (.goto 7, 3) := by decide +kernel
theorem dX10_told_19 : decode cX10_told 19 = .ok (.lload_n 2, 1) := by decide +kernel
theorem dX10_told_20 : decode cX10_told 20 = .ok (.lload 5, 2) := by decide +kernel
theorem dX10_told_22 : decode cX10_told 22 = .ok (.ldiv, 1) := by decide +kernel
theorem dX10_told_23 : decode cX10_told 23 = .ok (.lreturn, 1) := by decide +kernel
theorem dX10_at_0 : decode cX10_at 0 = .ok (.iload_n 1, 1) := by decide +kernel
theorem dX10_at_1 : decode cX10_at 1 = .ok (.invokestatic 79, 3) := by decide +kernel
theorem dX10_at_4 : decode cX10_at 4 = .ok (.ifCond .ne 6, 3) := by decide +kernel
theorem dX10_at_7 : decode cX10_at 7 = .ok (.ldc 83, 2) := by decide +kernel
theorem dX10_at_9 : decode cX10_at 9 = .ok (.ireturn, 1) := by decide +kernel
theorem dX10_at_10 : decode cX10_at 10 = .ok (.iload_n 2, 1) := by decide +kernel
theorem dX10_at_11 : decode cX10_at 11 = .ok (.invokestatic 84, 3) := by decide +kernel
theorem dX10_at_14 : decode cX10_at 14 = .ok (.ifCond .ne 6, 3) := by decide +kernel
theorem dX10_at_17 : decode cX10_at 17 = .ok (.ldc 89, 2) := by decide +kernel
theorem dX10_at_19 : decode cX10_at 19 = .ok (.ireturn, 1) := by decide +kernel
theorem dX10_at_20 : decode cX10_at 20 = .ok (.aload_n 0, 1) := by decide +kernel
theorem dX10_at_21 : decode cX10_at 21 = .ok (.iload_n 1, 1) := by decide +kernel
theorem dX10_at_22 : decode cX10_at 22 = .ok (.iload_n 2, 1) := by decide +kernel
theorem dX10_at_23 : decode cX10_at 23 = .ok (.invokevirtual 130, 3) := by decide +kernel
theorem dX10_at_26 : decode cX10_at 26 = .ok (.ifCond .eq 31, 3) := by decide +kernel
theorem dX10_at_29 : decode cX10_at 29 = .ok (.iload_n 3, 1) := by decide +kernel
theorem dX10_at_30 : decode cX10_at 30 = .ok (.ifCond .eq 10, 3) := by decide +kernel
theorem dX10_at_33 : decode cX10_at 33 = .ok (.aload_n 0, 1) := by decide +kernel
theorem dX10_at_34 : decode cX10_at 34 = .ok (.getfield 111, 3) := by decide +kernel
theorem dX10_at_37 : decode cX10_at 37 = .ok (.goto 7, 3) := by decide +kernel
theorem dX10_at_40 : decode cX10_at 40 = .ok (.aload_n 0, 1) := by decide +kernel
theorem dX10_at_41 : decode cX10_at 41 = .ok (.getfield 107, 3) := by decide +kernel
theorem dX10_at_44 : decode cX10_at 44 = .ok (.aload_n 0, 1) := by decide +kernel
theorem dX10_at_45 : decode cX10_at 45 = .ok (.getfield 114, 3) := by decide +kernel
theorem dX10_at_48 : decode cX10_at 48 = .ok (.iload 4, 2) := by decide +kernel
theorem dX10_at_50 : decode cX10_at 50 = .ok (.invokestatic 133, 3) := by decide +kernel
theorem dX10_at_53 : decode cX10_at 53 = .ok (.l2i, 1) := by decide +kernel
theorem dX10_at_54 : decode cX10_at 54 = .ok (.goto 5, 3) := by decide +kernel
theorem dX10_at_57 : decode cX10_at 57 = .ok (.ldc 137, 2) := by decide +kernel
theorem dX10_at_59 : decode cX10_at 59 = .ok (.ireturn, 1) := by decide +kernel
theorem dX10_there_0 : decode cX10_there 0 = .ok (.iload_n 1, 1) := by decide +kernel
theorem dX10_there_1 : decode cX10_there 1 = .ok (.invokestatic 79, 3) := by decide +kernel
theorem dX10_there_4 : decode cX10_there 4 = .ok (.ifCond .ne 6, 3) := by decide +kernel
theorem dX10_there_7 : decode cX10_there 7 = .ok (.ldc 83, 2) := by decide +kernel
theorem dX10_there_9 : decode cX10_there 9 = .ok (.ireturn, 1) := by decide +kernel
theorem dX10_there_10 : decode cX10_there 10 = .ok (.iload_n 2, 1) := by decide +kernel
theorem dX10_there_11 : decode cX10_there 11 = .ok (.invokestatic 84, 3) := by decide +kernel
theorem dX10_there_14 : decode cX10_there 14 = .ok (.ifCond .ne 8, 3) := by decide +kernel
theorem dX10_there_17 : decode cX10_there 17 = .ok (.ldc 89, 2) := by decide +kernel
theorem dX10_there_19 : decode cX10_there 19 = .ok (.goto 17, 3) := by decide +kernel
theorem dX10_there_22 : decode cX10_there 22 = .ok (.aload_n 0, 1) := by decide +kernel
theorem dX10_there_23 : decode cX10_there 23 = .ok (.iload_n 1, 1) := by decide +kernel
theorem dX10_there_24 : decode cX10_there 24 = .ok (.iload_n 2, 1) := by decide +kernel
theorem dX10_there_25 : decode cX10_there 25 = .ok (.invokevirtual 130, 3) := by decide +kernel
theorem dX10_there_28 : decode cX10_there 28 = .ok (.ifCond .eq 7, 3) := by decide +kernel
theorem dX10_there_31 : decode cX10_there 31 = .ok (.iconst 1, 1) := by decide +kernel
theorem dX10_there_32 : decode cX10_there 32 = .ok (.goto 4, 3) := by decide +kernel
theorem dX10_there_35 : decode cX10_there 35 = .ok (.iconst 0, 1) := by decide +kernel
theorem dX10_there_36 : decode cX10_there 36 = .ok (.ireturn, 1) := by decide +kernel
theorem dX10_mended_0 : decode cX10_mended 0 = .ok (.aload_n 0, 1) := by decide +kernel
theorem dX10_mended_1 : decode cX10_mended 1 = .ok (.getfield 95, 3) := by decide +kernel
theorem dX10_mended_4 : decode cX10_mended 4 = .ok (.ireturn, 1) := by decide +kernel
theorem dX10_isSpan_0 : decode cX10_isSpan 0 = .ok (.iload_n 0, 1) := by decide +kernel
theorem dX10_isSpan_1 : decode cX10_isSpan 1 = .ok (.i2l, 1) := by decide +kernel
theorem dX10_isSpan_2 : decode cX10_isSpan 2 = .ok (.ldc2_w 138, 3) := by decide +kernel
theorem dX10_isSpan_5 : decode cX10_isSpan 5 = .ok (.ldc2_w 140, 3) := by decide +kernel
theorem dX10_isSpan_8 : decode cX10_isSpan 8 = .ok (.invokestatic 73, 3) := by decide +kernel
theorem dX10_isSpan_11 : decode cX10_isSpan 11 = .ok (.ifCond .eq 20, 3) := by decide +kernel
theorem dX10_isSpan_14 : decode cX10_isSpan 14 = .ok (.iload_n 1, 1) := by decide +kernel
theorem dX10_isSpan_15 : decode cX10_isSpan 15 = .ok (.i2l, 1) := by decide +kernel
theorem dX10_isSpan_16 : decode cX10_isSpan 16 = .ok (.iload_n 0, 1) := by decide +kernel
theorem dX10_isSpan_17 : decode cX10_isSpan 17 = .ok (.i2l, 1) := by decide +kernel
theorem dX10_isSpan_18 : decode cX10_isSpan 18 = .ok (.ldc2_w 140, 3) := by decide +kernel
theorem dX10_isSpan_21 : decode cX10_isSpan 21 = .ok (.invokestatic 73, 3) := by decide +kernel
theorem dX10_isSpan_24 : decode cX10_isSpan 24 = .ok (.ifCond .eq 7, 3) := by decide +kernel
theorem dX10_isSpan_27 : decode cX10_isSpan 27 = .ok (.iconst 1, 1) := by decide +kernel
theorem dX10_isSpan_28 : decode cX10_isSpan 28 = .ok (.goto 4, 3) := by decide +kernel
theorem dX10_isSpan_31 : decode cX10_isSpan 31 = .ok (.iconst 0, 1) := by decide +kernel
theorem dX10_isSpan_32 : decode cX10_isSpan 32 = .ok (.ireturn, 1) := by decide +kernel
theorem dX10_isIn_0 : decode cX10_isIn 0 = .ok (.aload_n 0, 1) := by decide +kernel
theorem dX10_isIn_1 : decode cX10_isIn 1 = .ok (.iload_n 1, 1) := by decide +kernel
theorem dX10_isIn_2 : decode cX10_isIn 2 = .ok (.iload_n 2, 1) := by decide +kernel
theorem dX10_isIn_3 : decode cX10_isIn 3 = .ok (.invokevirtual 130, 3) := by decide +kernel
theorem dX10_isIn_6 : decode cX10_isIn 6 = .ok (.ifCond .eq 58, 3) := by decide +kernel
theorem dX10_isIn_9 : decode cX10_isIn 9 = .ok (.aload_n 0, 1) := by decide +kernel
theorem dX10_isIn_10 : decode cX10_isIn 10 = .ok (.getfield 107, 3) := by decide +kernel
theorem dX10_isIn_13 : decode cX10_isIn 13 = .ok (.iload_n 3, 1) := by decide +kernel
theorem dX10_isIn_14 : decode cX10_isIn 14 = .ok (.i2l, 1) := by decide +kernel
theorem dX10_isIn_15 : decode cX10_isIn 15 = .ok (.aload_n 0, 1) := by decide +kernel
theorem dX10_isIn_16 : decode cX10_isIn 16 = .ok (.getfield 114, 3) := by decide +kernel
theorem dX10_isIn_19 : decode cX10_isIn 19 = .ok (.lmul, 1) := by decide +kernel
theorem dX10_isIn_20 : decode cX10_isIn 20 = .ok (.iload 4, 2) := by decide +kernel
theorem dX10_isIn_22 : decode cX10_isIn 22 = .ok (.i2l, 1) := by decide +kernel
theorem dX10_isIn_23 : decode cX10_isIn 23 = .ok (.aload_n 0, 1) := by decide +kernel
theorem dX10_isIn_24 : decode cX10_isIn 24 = .ok (.getfield 114, 3) := by decide +kernel
theorem dX10_isIn_27 : decode cX10_isIn 27 = .ok (.lmul, 1) := by decide +kernel
theorem dX10_isIn_28 : decode cX10_isIn 28 = .ok (.invokestatic 73, 3) := by decide +kernel
theorem dX10_isIn_31 : decode cX10_isIn 31 = .ok (.ifCond .eq 33, 3) := by decide +kernel
theorem dX10_isIn_34 : decode cX10_isIn 34 = .ok (.aload_n 0, 1) := by decide +kernel
theorem dX10_isIn_35 : decode cX10_isIn 35 = .ok (.getfield 111, 3) := by decide +kernel
theorem dX10_isIn_38 : decode cX10_isIn 38 = .ok (.iload 5, 2) := by decide +kernel
theorem dX10_isIn_40 : decode cX10_isIn 40 = .ok (.i2l, 1) := by decide +kernel
theorem dX10_isIn_41 : decode cX10_isIn 41 = .ok (.aload_n 0, 1) := by decide +kernel
theorem dX10_isIn_42 : decode cX10_isIn 42 = .ok (.getfield 114, 3) := by decide +kernel
theorem dX10_isIn_45 : decode cX10_isIn 45 = .ok (.lmul, 1) := by decide +kernel
theorem dX10_isIn_46 : decode cX10_isIn 46 = .ok (.iload 6, 2) := by decide +kernel
theorem dX10_isIn_48 : decode cX10_isIn 48 = .ok (.i2l, 1) := by decide +kernel
theorem dX10_isIn_49 : decode cX10_isIn 49 = .ok (.aload_n 0, 1) := by decide +kernel
theorem dX10_isIn_50 : decode cX10_isIn 50 = .ok (.getfield 114, 3) := by decide +kernel
theorem dX10_isIn_53 : decode cX10_isIn 53 = .ok (.lmul, 1) := by decide +kernel
theorem dX10_isIn_54 : decode cX10_isIn 54 = .ok (.invokestatic 73, 3) := by decide +kernel
theorem dX10_isIn_57 : decode cX10_isIn 57 = .ok (.ifCond .eq 7, 3) := by decide +kernel
theorem dX10_isIn_60 : decode cX10_isIn 60 = .ok (.iconst 1, 1) := by decide +kernel
theorem dX10_isIn_61 : decode cX10_isIn 61 = .ok (.goto 4, 3) := by decide +kernel
theorem dX10_isIn_64 : decode cX10_isIn 64 = .ok (.iconst 0, 1) := by decide +kernel
theorem dX10_isIn_65 : decode cX10_isIn 65 = .ok (.ireturn, 1) := by decide +kernel
theorem dX10_inside_0 : decode cX10_inside 0 = .ok (.iload_n 1, 1) := by decide +kernel
theorem dX10_inside_1 : decode cX10_inside 1 = .ok (.iload_n 2, 1) := by decide +kernel
theorem dX10_inside_2 : decode cX10_inside 2 = .ok (.invokestatic 142, 3) := by decide +kernel
theorem dX10_inside_5 : decode cX10_inside 5 = .ok (.ifCond .eq 20, 3) := by decide +kernel
theorem dX10_inside_8 : decode cX10_inside 8 = .ok (.iload_n 3, 1) := by decide +kernel
theorem dX10_inside_9 : decode cX10_inside 9 = .ok (.iload 4, 2) := by decide +kernel
theorem dX10_inside_11 : decode cX10_inside 11 = .ok (.invokestatic 142, 3) := by decide +kernel
theorem dX10_inside_14 : decode cX10_inside 14 = .ok (.ifCond .eq 11, 3) := by decide +kernel
theorem dX10_inside_17 : decode cX10_inside 17 = .ok (.iload 5, 2) := by decide +kernel
theorem dX10_inside_19 : decode cX10_inside 19 = .ok (.invokestatic 84, 3) := by decide +kernel
theorem dX10_inside_22 : decode cX10_inside 22 = .ok (.ifCond .ne 6, 3) := by decide +kernel
theorem dX10_inside_25 : decode cX10_inside 25 = .ok (.ldc 89, 2) := by decide +kernel
theorem dX10_inside_27 : decode cX10_inside 27 = .ok (.ireturn, 1) := by decide +kernel
theorem dX10_inside_28 : decode cX10_inside 28 = .ok (.iconst 0, 1) := by decide +kernel
theorem dX10_inside_29 : decode cX10_inside 29 = .ok (.istore 6, 2) := by decide +kernel
theorem dX10_inside_31 : decode cX10_inside 31 = .ok (.iconst 0, 1) := by decide +kernel
theorem dX10_inside_32 : decode cX10_inside 32 = .ok (.istore 7, 2) := by decide +kernel
theorem dX10_inside_34 : decode cX10_inside 34 = .ok (.iload 7, 2) := by decide +kernel
theorem dX10_inside_36 : decode cX10_inside 36 = .ok (.bipush 10, 2) := by decide +kernel
theorem dX10_inside_38 : decode cX10_inside 38 = .ok (.if_icmp .ge 35, 3) := by decide +kernel
theorem dX10_inside_41 : decode cX10_inside 41 = .ok (.iload 6, 2) := by decide +kernel
theorem dX10_inside_43 : decode cX10_inside 43 = .ok (.aload_n 0, 1) := by decide +kernel
theorem dX10_inside_44 : decode cX10_inside 44 = .ok (.iload 7, 2) := by decide +kernel
theorem dX10_inside_46 : decode cX10_inside 46 = .ok (.iload 5, 2) := by decide +kernel
theorem dX10_inside_48 : decode cX10_inside 48 = .ok (.iload_n 1, 1) := by decide +kernel
theorem dX10_inside_49 : decode cX10_inside 49 = .ok (.iload_n 2, 1) := by decide +kernel
theorem dX10_inside_50 : decode cX10_inside 50 = .ok (.iload_n 3, 1) := by decide +kernel
theorem dX10_inside_51 : decode cX10_inside 51 = .ok (.iload 4, 2) := by decide +kernel
theorem dX10_inside_53 : decode cX10_inside 53 = .ok (.invokevirtual 145, 3) := by decide +kernel
theorem dX10_inside_56 : decode cX10_inside 56 = .ok (.ifCond .eq 7, 3) := by decide +kernel
theorem dX10_inside_59 : decode cX10_inside 59 = .ok (.iconst 1, 1) := by decide +kernel
theorem dX10_inside_60 : decode cX10_inside 60 = .ok (.goto 4, 3) := by decide +kernel
theorem dX10_inside_63 : decode cX10_inside 63 = .ok (.iconst 0, 1) := by decide +kernel
theorem dX10_inside_64 : decode cX10_inside 64 = .ok (.iadd, 1) := by decide +kernel
theorem dX10_inside_65 : decode cX10_inside 65 = .ok (.istore 6, 2) := by decide +kernel
theorem dX10_inside_67 : decode cX10_inside 67 = .ok (.iinc 7 1, 3) := by decide +kernel
theorem dX10_inside_70 : decode cX10_inside 70 = .ok (.goto (-36), 3) := by decide +kernel
theorem dX10_inside_73 : decode cX10_inside 73 = .ok (.iload 6, 2) := by decide +kernel
theorem dX10_inside_75 : decode cX10_inside 75 = .ok (.ireturn, 1) := by decide +kernel
theorem dX10_who_0 : decode cX10_who 0 = .ok (.iload_n 1, 1) := by decide +kernel
theorem dX10_who_1 : decode cX10_who 1 = .ok (.iload_n 2, 1) := by decide +kernel
theorem dX10_who_2 : decode cX10_who 2 = .ok (.invokestatic 142, 3) := by decide +kernel
theorem dX10_who_5 : decode cX10_who 5 = .ok (.ifCond .eq 20, 3) := by decide +kernel
theorem dX10_who_8 : decode cX10_who 8 = .ok (.iload_n 3, 1) := by decide +kernel
theorem dX10_who_9 : decode cX10_who 9 = .ok (.iload 4, 2) := by decide +kernel
theorem dX10_who_11 : decode cX10_who 11 = .ok (.invokestatic 142, 3) := by decide +kernel
theorem dX10_who_14 : decode cX10_who 14 = .ok (.ifCond .eq 11, 3) := by decide +kernel
theorem dX10_who_17 : decode cX10_who 17 = .ok (.iload 5, 2) := by decide +kernel
theorem dX10_who_19 : decode cX10_who 19 = .ok (.invokestatic 84, 3) := by decide +kernel
theorem dX10_who_22 : decode cX10_who 22 = .ok (.ifCond .ne 6, 3) := by decide +kernel
theorem dX10_who_25 : decode cX10_who 25 = .ok (.ldc 89, 2) := by decide +kernel
theorem dX10_who_27 : decode cX10_who 27 = .ok (.ireturn, 1) := by decide +kernel
theorem dX10_who_28 : decode cX10_who 28 = .ok (.iconst 0, 1) := by decide +kernel
theorem dX10_who_29 : decode cX10_who 29 = .ok (.istore 7, 2) := by decide +kernel
theorem dX10_who_31 : decode cX10_who 31 = .ok (.iconst 0, 1) := by decide +kernel
theorem dX10_who_32 : decode cX10_who 32 = .ok (.istore 8, 2) := by decide +kernel
theorem dX10_who_34 : decode cX10_who 34 = .ok (.iload 8, 2) := by decide +kernel
theorem dX10_who_36 : decode cX10_who 36 = .ok (.bipush 10, 2) := by decide +kernel
theorem dX10_who_38 : decode cX10_who 38 = .ok (.if_icmp .ge 38, 3) := by decide +kernel
theorem dX10_who_41 : decode cX10_who 41 = .ok (.aload_n 0, 1) := by decide +kernel
theorem dX10_who_42 : decode cX10_who 42 = .ok (.iload 8, 2) := by decide +kernel
theorem dX10_who_44 : decode cX10_who 44 = .ok (.iload 5, 2) := by decide +kernel
theorem dX10_who_46 : decode cX10_who 46 = .ok (.iload_n 1, 1) := by decide +kernel
theorem dX10_who_47 : decode cX10_who 47 = .ok (.iload_n 2, 1) := by decide +kernel
theorem dX10_who_48 : decode cX10_who 48 = .ok (.iload_n 3, 1) := by decide +kernel
theorem dX10_who_49 : decode cX10_who 49 = .ok (.iload 4, 2) := by decide +kernel
theorem dX10_who_51 : decode cX10_who 51 = .ok (.invokevirtual 145, 3) := by decide +kernel
theorem dX10_who_54 : decode cX10_who 54 = .ok (.ifCond .eq 16, 3) := by decide +kernel
theorem dX10_who_57 : decode cX10_who 57 = .ok (.iload 7, 2) := by decide +kernel
theorem dX10_who_59 : decode cX10_who 59 = .ok (.iload 6, 2) := by decide +kernel
theorem dX10_who_61 : decode cX10_who 61 = .ok (.if_icmp .ne 6, 3) := by decide +kernel
theorem dX10_who_64 : decode cX10_who 64 = .ok (.iload 8, 2) := by decide +kernel
theorem dX10_who_66 : decode cX10_who 66 = .ok (.ireturn, 1) := by decide +kernel
theorem dX10_who_67 : decode cX10_who 67 = .ok (.iinc 7 1, 3) := by decide +kernel
theorem dX10_who_70 : decode cX10_who 70 = .ok (.iinc 8 1, 3) := by decide +kernel
theorem dX10_who_73 : decode cX10_who 73 = .ok (.goto (-39), 3) := by decide +kernel
theorem dX10_who_76 : decode cX10_who 76 = .ok (.ldc 149, 2) := by decide +kernel
theorem dX10_who_78 : decode cX10_who 78 = .ok (.ireturn, 1) := by decide +kernel
theorem dX10_beginRuns_0 : decode cX10_beginRuns 0 = .ok (.aload_n 0, 1) := by decide +kernel
theorem dX10_beginRuns_1 : decode cX10_beginRuns 1 = .ok (.iconst 0, 1) := by decide +kernel
theorem dX10_beginRuns_2 : decode cX10_beginRuns 2 = .ok (.putfield 150, 3) := by decide +kernel
theorem dX10_beginRuns_5 : decode cX10_beginRuns 5 = .ok (.aload_n 0, 1) := by decide +kernel
theorem dX10_beginRuns_6 : decode cX10_beginRuns 6 = .ok (.ldc 149, 2) := by decide +kernel
theorem dX10_beginRuns_8 : decode cX10_beginRuns 8 = .ok (.putfield 153, 3) := by decide +kernel
theorem dX10_beginRuns_11 : decode cX10_beginRuns 11 = .ok (.return_, 1) := by decide +kernel
theorem dX10_meet_0 : decode cX10_meet 0 = .ok (.iload_n 2, 1) := by decide +kernel
theorem dX10_meet_1 : decode cX10_meet 1 = .ok (.ifCond .eq 37, 3) := by decide +kernel
theorem dX10_meet_4 : decode cX10_meet 4 = .ok (.aload_n 0, 1) := by decide +kernel
theorem dX10_meet_5 : decode cX10_meet 5 = .ok (.getfield 153, 3) := by decide +kernel
theorem dX10_meet_8 : decode cX10_meet 8 = .ok (.ldc 149, 2) := by decide +kernel
theorem dX10_meet_10 : decode cX10_meet 10 = .ok (.if_icmp .ne 28, 3) := by decide +kernel
theorem dX10_meet_13 : decode cX10_meet 13 = .ok (.aload_n 0, 1) := by decide +kernel
theorem dX10_meet_14 : decode cX10_meet 14 = .ok (.iload_n 1, 1) := by decide +kernel
theorem dX10_meet_15 : decode cX10_meet 15 = .ok (.putfield 153, 3) := by decide +kernel
theorem dX10_meet_18 : decode cX10_meet 18 = .ok (.aload_n 0, 1) := by decide +kernel
theorem dX10_meet_19 : decode cX10_meet 19 = .ok (.getfield 25, 3) := by decide +kernel
theorem dX10_meet_22 : decode cX10_meet 22 = .ok (.aload_n 0, 1) := by decide +kernel
theorem dX10_meet_23 : decode cX10_meet 23 = .ok (.getfield 150, 3) := by decide +kernel
theorem dX10_meet_26 : decode cX10_meet 26 = .ok (.iload_n 1, 1) := by decide +kernel
theorem dX10_meet_27 : decode cX10_meet 27 = .ok (.iastore, 1) := by decide +kernel
theorem dX10_meet_28 : decode cX10_meet 28 = .ok (.aload_n 0, 1) := by decide +kernel
theorem dX10_meet_29 : decode cX10_meet 29 = .ok (.dup, 1) := by decide +kernel
theorem dX10_meet_30 : decode cX10_meet 30 = .ok (.getfield 150, 3) := by decide +kernel
theorem dX10_meet_33 : decode cX10_meet 33 = .ok (.iconst 1, 1) := by decide +kernel
theorem dX10_meet_34 : decode cX10_meet 34 = .ok (.iadd, 1) := by decide +kernel
theorem dX10_meet_35 : decode cX10_meet 35 = .ok (.putfield 150, 3) := by decide +kernel
theorem dX10_meet_38 : decode cX10_meet 38 = .ok (.iload_n 2, 1) := by decide +kernel
theorem dX10_meet_39 : decode cX10_meet 39 = .ok (.ifCond .eq 15, 3) := by decide +kernel
theorem dX10_meet_42 : decode cX10_meet 42 = .ok (.aload_n 0, 1) := by decide +kernel
theorem dX10_meet_43 : decode cX10_meet 43 = .ok (.getfield 28, 3) := by decide +kernel
theorem dX10_meet_46 : decode cX10_meet 46 = .ok (.aload_n 0, 1) := by decide +kernel
theorem dX10_meet_47 : decode cX10_meet 47 = .ok (.getfield 150, 3) := by decide +kernel
theorem dX10_meet_50 : decode cX10_meet 50 = .ok (.iconst 1, 1) := by decide +kernel
theorem dX10_meet_51 : decode cX10_meet 51 = .ok (.isub, 1) := by decide +kernel
theorem dX10_meet_52 : decode cX10_meet 52 = .ok (.iload_n 1, 1) := by decide +kernel
theorem dX10_meet_53 : decode cX10_meet 53 = .ok (.iastore, 1) := by decide +kernel
theorem dX10_meet_54 : decode cX10_meet 54 = .ok (.aload_n 0, 1) := by decide +kernel
theorem dX10_meet_55 : decode cX10_meet 55 = .ok (.iload_n 2, 1) := by decide +kernel
theorem dX10_meet_56 : decode cX10_meet 56 = .ok (.ifCond .eq 10, 3) := by decide +kernel
theorem dX10_meet_59 : decode cX10_meet 59 = .ok (.aload_n 0, 1) := by decide +kernel
theorem dX10_meet_60 : decode cX10_meet 60 = .ok (.getfield 153, 3) := by decide +kernel
theorem dX10_meet_63 : decode cX10_meet 63 = .ok (.goto 5, 3) := by decide +kernel
theorem dX10_meet_66 : decode cX10_meet 66 = .ok (.ldc 149, 2) := by decide +kernel
theorem dX10_meet_68 : decode cX10_meet 68 = .ok (.putfield 153, 3) := by decide +kernel
theorem dX10_meet_71 : decode cX10_meet 71 = .ok (.return_, 1) := by decide +kernel
theorem dX10_layVisits_0 : decode cX10_layVisits 0 = .ok (.aload_n 0, 1) := by decide +kernel
theorem dX10_layVisits_1 : decode cX10_layVisits 1 = .ok (.invokevirtual 156, 3) := by decide +kernel
theorem dX10_layVisits_4 : decode cX10_layVisits 4 = .ok (.iconst 0, 1) := by decide +kernel
theorem dX10_layVisits_5 : decode cX10_layVisits 5 = .ok (.istore 6, 2) := by decide +kernel
theorem dX10_layVisits_7 : decode cX10_layVisits 7 = .ok (.iload 6, 2) := by decide +kernel
theorem dX10_layVisits_9 : decode cX10_layVisits 9 = .ok (.sipush 200, 3) := by decide +kernel
theorem dX10_layVisits_12 : decode cX10_layVisits 12 = .ok (.if_icmp .ge 28, 3) := by decide +kernel
theorem dX10_layVisits_15 : decode cX10_layVisits 15 = .ok (.aload_n 0, 1) := by decide +kernel
theorem dX10_layVisits_16 : decode cX10_layVisits 16 = .ok (.iload 6, 2) := by decide +kernel
theorem dX10_layVisits_18 : decode cX10_layVisits 18 = .ok (.aload_n 0, 1) := by decide +kernel
theorem dX10_layVisits_19 : decode cX10_layVisits 19 = .ok (.iload_n 1, 1) := by decide +kernel
theorem dX10_layVisits_20 : decode cX10_layVisits 20 = .ok (.iload 6, 2) := by decide +kernel
theorem dX10_layVisits_22 : decode cX10_layVisits 22 = .ok (.iload_n 2, 1) := by decide +kernel
theorem dX10_layVisits_23 : decode cX10_layVisits 23 = .ok (.iload_n 3, 1) := by decide +kernel
theorem dX10_layVisits_24 : decode cX10_layVisits 24 = .ok (.iload 4, 2) := by decide +kernel
theorem dX10_layVisits_26 : decode cX10_layVisits 26 = .ok (.iload 5, 2) := by decide +kernel
theorem dX10_layVisits_28 : decode cX10_layVisits 28 = .ok (.invokevirtual 145, 3) := by decide +kernel
theorem dX10_layVisits_31 : decode cX10_layVisits 31 = .ok (.invokevirtual 159, 3) := by decide +kernel
theorem dX10_layVisits_34 : decode cX10_layVisits 34 = .ok (.iinc 6 1, 3) := by decide +kernel
theorem dX10_layVisits_37 : decode cX10_layVisits 37 = .ok (.goto (-30), 3) := by decide +kernel
theorem dX10_layVisits_40 : decode cX10_layVisits 40 = .ok (.return_, 1) := by decide +kernel
theorem dX10_visits_0 : decode cX10_visits 0 = .ok (.iload_n 1, 1) := by decide +kernel
theorem dX10_visits_1 : decode cX10_visits 1 = .ok (.invokestatic 79, 3) := by decide +kernel
theorem dX10_visits_4 : decode cX10_visits 4 = .ok (.ifCond .ne 6, 3) := by decide +kernel
theorem dX10_visits_7 : decode cX10_visits 7 = .ok (.ldc 83, 2) := by decide +kernel
theorem dX10_visits_9 : decode cX10_visits 9 = .ok (.ireturn, 1) := by decide +kernel
theorem dX10_visits_10 : decode cX10_visits 10 = .ok (.iload_n 2, 1) := by decide +kernel
theorem dX10_visits_11 : decode cX10_visits 11 = .ok (.iload_n 3, 1) := by decide +kernel
theorem dX10_visits_12 : decode cX10_visits 12 = .ok (.invokestatic 142, 3) := by decide +kernel
theorem dX10_visits_15 : decode cX10_visits 15 = .ok (.ifCond .eq 13, 3) := by decide +kernel
theorem dX10_visits_18 : decode cX10_visits 18 = .ok (.iload 4, 2) := by decide +kernel
theorem dX10_visits_20 : decode cX10_visits 20 = .ok (.iload 5, 2) := by decide +kernel
theorem dX10_visits_22 : decode cX10_visits 22 = .ok (.invokestatic 142, 3) := by decide +kernel
theorem dX10_visits_25 : decode cX10_visits 25 = .ok (.ifCond .ne 6, 3) := by decide +kernel
theorem dX10_visits_28 : decode cX10_visits 28 = .ok (.ldc 89, 2) := by decide +kernel
theorem dX10_visits_30 : decode cX10_visits 30 = .ok (.ireturn, 1) := by decide +kernel
theorem dX10_visits_31 : decode cX10_visits 31 = .ok (.aload_n 0, 1) := by decide +kernel
theorem dX10_visits_32 : decode cX10_visits 32 = .ok (.iload_n 1, 1) := by decide +kernel
theorem dX10_visits_33 : decode cX10_visits 33 = .ok (.iload_n 2, 1) := by decide +kernel
theorem dX10_visits_34 : decode cX10_visits 34 = .ok (.iload_n 3, 1) := by decide +kernel
theorem dX10_visits_35 : decode cX10_visits 35 = .ok (.iload 4, 2) := by decide +kernel
theorem dX10_visits_37 : decode cX10_visits 37 = .ok (.iload 5, 2) := by decide +kernel
theorem dX10_visits_39 : decode cX10_visits 39 = .ok (.invokevirtual 163, 3) := by decide +kernel
theorem dX10_visits_42 : decode cX10_visits 42 = .ok (.aload_n 0, 1) := by decide +kernel
theorem dX10_visits_43 : decode cX10_visits 43 = .ok (.getfield 150, 3) := by decide +kernel
theorem dX10_visits_46 : decode cX10_visits 46 = .ok (.ireturn, 1) := by decide +kernel
theorem dX10_visit_0 : decode cX10_visit 0 = .ok (.iload_n 1, 1) := by decide +kernel
theorem dX10_visit_1 : decode cX10_visit 1 = .ok (.invokestatic 79, 3) := by decide +kernel
theorem dX10_visit_4 : decode cX10_visit 4 = .ok (.ifCond .ne 6, 3) := by decide +kernel
theorem dX10_visit_7 : decode cX10_visit 7 = .ok (.ldc 83, 2) := by decide +kernel
theorem dX10_visit_9 : decode cX10_visit 9 = .ok (.ireturn, 1) := by decide +kernel
theorem dX10_visit_10 : decode cX10_visit 10 = .ok (.iload_n 2, 1) := by decide +kernel
theorem dX10_visit_11 : decode cX10_visit 11 = .ok (.iload_n 3, 1) := by decide +kernel
theorem dX10_visit_12 : decode cX10_visit 12 = .ok (.invokestatic 142, 3) := by decide +kernel
theorem dX10_visit_15 : decode cX10_visit 15 = .ok (.ifCond .eq 13, 3) := by decide +kernel
theorem dX10_visit_18 : decode cX10_visit 18 = .ok (.iload 4, 2) := by decide +kernel
theorem dX10_visit_20 : decode cX10_visit 20 = .ok (.iload 5, 2) := by decide +kernel
theorem dX10_visit_22 : decode cX10_visit 22 = .ok (.invokestatic 142, 3) := by decide +kernel
theorem dX10_visit_25 : decode cX10_visit 25 = .ok (.ifCond .ne 6, 3) := by decide +kernel
theorem dX10_visit_28 : decode cX10_visit 28 = .ok (.ldc 89, 2) := by decide +kernel
theorem dX10_visit_30 : decode cX10_visit 30 = .ok (.ireturn, 1) := by decide +kernel
theorem dX10_visit_31 : decode cX10_visit 31 = .ok (.aload_n 0, 1) := by decide +kernel
theorem dX10_visit_32 : decode cX10_visit 32 = .ok (.iload_n 1, 1) := by decide +kernel
theorem dX10_visit_33 : decode cX10_visit 33 = .ok (.iload_n 2, 1) := by decide +kernel
theorem dX10_visit_34 : decode cX10_visit 34 = .ok (.iload_n 3, 1) := by decide +kernel
theorem dX10_visit_35 : decode cX10_visit 35 = .ok (.iload 4, 2) := by decide +kernel
theorem dX10_visit_37 : decode cX10_visit 37 = .ok (.iload 5, 2) := by decide +kernel
theorem dX10_visit_39 : decode cX10_visit 39 = .ok (.invokevirtual 163, 3) := by decide +kernel
theorem dX10_visit_42 : decode cX10_visit 42 = .ok (.iload 6, 2) := by decide +kernel
theorem dX10_visit_44 : decode cX10_visit 44 = .ok (.i2l, 1) := by decide +kernel
theorem dX10_visit_45 : decode cX10_visit 45 = .ok (.lconst 0, 1) := by decide +kernel
theorem dX10_visit_46 : decode cX10_visit 46 = .ok (.aload_n 0, 1) := by decide +kernel
theorem dX10_visit_47 : decode cX10_visit 47 = .ok (.getfield 150, 3) := by decide +kernel
theorem dX10_visit_50 : decode cX10_visit 50 = .ok (.iconst 1, 1) := by decide +kernel
theorem dX10_visit_51 : decode cX10_visit 51 = .ok (.isub, 1) := by decide +kernel
theorem dX10_visit_52 : decode cX10_visit 52 = .ok (.i2l, 1) := by decide +kernel
theorem dX10_visit_53 : decode cX10_visit 53 = .ok (.invokestatic 73, 3) := by decide +kernel
theorem dX10_visit_56 : decode cX10_visit 56 = .ok (.ifCond .ne 8, 3) := by decide +kernel
theorem dX10_visit_59 : decode cX10_visit 59 = .ok (.ldc 149, 2) := by decide +kernel
theorem dX10_visit_61 : decode cX10_visit 61 = .ok (.goto 25, 3) := by decide +kernel
theorem dX10_visit_64 : decode cX10_visit 64 = .ok (.iload 7, 2) := by decide +kernel
theorem dX10_visit_66 : decode cX10_visit 66 = .ok (.ifCond .eq 13, 3) := by decide +kernel
theorem dX10_visit_69 : decode cX10_visit 69 = .ok (.aload_n 0, 1) := by decide +kernel
theorem dX10_visit_70 : decode cX10_visit 70 = .ok (.getfield 28, 3) := by decide +kernel
theorem dX10_visit_73 : decode cX10_visit 73 = .ok (.iload 6, 2) := by decide +kernel
theorem dX10_visit_75 : decode cX10_visit 75 = .ok (.iaload, 1) := by decide +kernel
theorem dX10_visit_76 : decode cX10_visit 76 = .ok (.goto 10, 3) := by decide +kernel
theorem dX10_visit_79 : decode cX10_visit 79 = .ok (.aload_n 0, 1) := by decide +kernel
theorem dX10_visit_80 : decode cX10_visit 80 = .ok (.getfield 25, 3) := by decide +kernel
theorem dX10_visit_83 : decode cX10_visit 83 = .ok (.iload 6, 2) := by decide +kernel
theorem dX10_visit_85 : decode cX10_visit 85 = .ok (.iaload, 1) := by decide +kernel
theorem dX10_visit_86 : decode cX10_visit 86 = .ok (.ireturn, 1) := by decide +kernel
theorem dX10_layFar_0 : decode cX10_layFar 0 = .ok (.aload_n 0, 1) := by decide +kernel
theorem dX10_layFar_1 : decode cX10_layFar 1 = .ok (.iload_n 1, 1) := by decide +kernel
theorem dX10_layFar_2 : decode cX10_layFar 2 = .ok (.iload_n 3, 1) := by decide +kernel
theorem dX10_layFar_3 : decode cX10_layFar 3 = .ok (.invokevirtual 130, 3) := by decide +kernel
theorem dX10_layFar_6 : decode cX10_layFar 6 = .ok (.ifCond .ne 5, 3) := by decide +kernel
theorem dX10_layFar_9 : decode cX10_layFar 9 = .ok (.iconst 0, 1) := by decide +kernel
theorem dX10_layFar_10 : decode cX10_layFar 10 = .ok (.ireturn, 1) := by decide +kernel
theorem dX10_layFar_11 : decode cX10_layFar 11 = .ok (.aload_n 0, 1) := by decide +kernel
theorem dX10_layFar_12 : decode cX10_layFar 12 = .ok (.getfield 107, 3) := by decide +kernel
theorem dX10_layFar_15 : decode cX10_layFar 15 = .ok (.lstore 4, 2) := by decide +kernel
theorem dX10_layFar_17 : decode cX10_layFar 17 = .ok (.aload_n 0, 1) := by decide +kernel
theorem dX10_layFar_18 : decode cX10_layFar 18 = .ok (.getfield 111, 3) := by decide +kernel
theorem dX10_layFar_21 : decode cX10_layFar 21 = .ok (.lstore 6, 2) := by decide +kernel
theorem dX10_layFar_23 : decode cX10_layFar 23 = .ok (.aload_n 0, 1) := by decide +kernel
theorem dX10_layFar_24 : decode cX10_layFar 24 = .ok (.getfield 114, 3) := by decide +kernel
theorem dX10_layFar_27 : decode cX10_layFar 27 = .ok (.lstore 8, 2) := by decide +kernel
theorem dX10_layFar_29 : decode cX10_layFar 29 = .ok (.aload_n 0, 1) := by decide +kernel
theorem dX10_layFar_30 : decode cX10_layFar 30 = .ok (.iload_n 2, 1) := by decide +kernel
theorem dX10_layFar_31 : decode cX10_layFar 31 = .ok (.iload_n 3, 1) := by decide +kernel
theorem dX10_layFar_32 : decode cX10_layFar 32 = .ok (.invokevirtual 130, 3) := by decide +kernel
theorem dX10_layFar_35 : decode cX10_layFar 35 = .ok (.ifCond .ne 5, 3) := by decide +kernel
theorem dX10_layFar_38 : decode cX10_layFar 38 = .ok (.iconst 0, 1) := by decide +kernel
theorem dX10_layFar_39 : decode cX10_layFar 39 = .ok (.ireturn, 1) := by decide +kernel
theorem dX10_layFar_40 : decode cX10_layFar 40 = .ok (.lload 4, 2) := by decide +kernel
theorem dX10_layFar_42 : decode cX10_layFar 42 = .ok (.aload_n 0, 1) := by decide +kernel
theorem dX10_layFar_43 : decode cX10_layFar 43 = .ok (.getfield 114, 3) := by decide +kernel
theorem dX10_layFar_46 : decode cX10_layFar 46 = .ok (.lmul, 1) := by decide +kernel
theorem dX10_layFar_47 : decode cX10_layFar 47 = .ok (.aload_n 0, 1) := by decide +kernel
theorem dX10_layFar_48 : decode cX10_layFar 48 = .ok (.getfield 107, 3) := by decide +kernel
theorem dX10_layFar_51 : decode cX10_layFar 51 = .ok (.lload 8, 2) := by decide +kernel
theorem dX10_layFar_53 : decode cX10_layFar 53 = .ok (.lmul, 1) := by decide +kernel
theorem dX10_layFar_54 : decode cX10_layFar 54 = .ok (.lsub, 1) := by decide +kernel
theorem dX10_layFar_55 : decode cX10_layFar 55 = .ok (.lstore 10, 2) := by decide +kernel
theorem dX10_layFar_57 : decode cX10_layFar 57 = .ok (.lload 6, 2) := by decide +kernel
theorem dX10_layFar_59 : decode cX10_layFar 59 = .ok (.aload_n 0, 1) := by decide +kernel
theorem dX10_layFar_60 : decode cX10_layFar 60 = .ok (.getfield 114, 3) := by decide +kernel
theorem dX10_layFar_63 : decode cX10_layFar 63 = .ok (.lmul, 1) := by decide +kernel
theorem dX10_layFar_64 : decode cX10_layFar 64 = .ok (.aload_n 0, 1) := by decide +kernel
theorem dX10_layFar_65 : decode cX10_layFar 65 = .ok (.getfield 111, 3) := by decide +kernel
theorem dX10_layFar_68 : decode cX10_layFar 68 = .ok (.lload 8, 2) := by decide +kernel
theorem dX10_layFar_70 : decode cX10_layFar 70 = .ok (.lmul, 1) := by decide +kernel
theorem dX10_layFar_71 : decode cX10_layFar 71 = .ok (.lsub, 1) := by decide +kernel
theorem dX10_layFar_72 : decode cX10_layFar 72 = .ok (.lstore 12, 2) := by decide +kernel
theorem dX10_layFar_74 : decode cX10_layFar 74 = .ok (.aload_n 0, 1) := by decide +kernel
theorem dX10_layFar_75 : decode cX10_layFar 75 = .ok (.lload 10, 2) := by decide +kernel
theorem dX10_layFar_77 : decode cX10_layFar 77 = .ok (.lload 10, 2) := by decide +kernel
theorem dX10_layFar_79 : decode cX10_layFar 79 = .ok (.lmul, 1) := by decide +kernel
theorem dX10_layFar_80 : decode cX10_layFar 80 = .ok (.lload 12, 2) := by decide +kernel
theorem dX10_layFar_82 : decode cX10_layFar 82 = .ok (.lload 12, 2) := by decide +kernel
theorem dX10_layFar_84 : decode cX10_layFar 84 = .ok (.lmul, 1) := by decide +kernel
theorem dX10_layFar_85 : decode cX10_layFar 85 = .ok (.ladd, 1) := by decide +kernel
theorem dX10_layFar_86 : decode cX10_layFar 86 = .ok (.putfield 167, 3) := by decide +kernel
theorem dX10_layFar_89 : decode cX10_layFar 89 = .ok (.aload_n 0, 1) := by decide +kernel
theorem dX10_layFar_90 : decode cX10_layFar 90 = .ok (.lload 8, 2) := by decide +kernel
theorem dX10_layFar_92 : decode cX10_layFar 92 = .ok (.aload_n 0, 1) := by decide +kernel
theorem dX10_layFar_93 : decode cX10_layFar 93 = .ok (.getfield 114, 3) := by decide +kernel
theorem dX10_layFar_96 : decode cX10_layFar 96 = .ok (.lmul, 1) := by decide +kernel
theorem dX10_layFar_97 : decode cX10_layFar 97 = .ok (.lload 8, 2) := by decide +kernel
theorem dX10_layFar_99 : decode cX10_layFar 99 = .ok (.lmul, 1) := by decide +kernel
theorem dX10_layFar_100 : decode cX10_layFar 100 = .ok (.aload_n 0, 1) := by decide +kernel
theorem dX10_layFar_101 : decode cX10_layFar 101 = .ok (.getfield 114, 3) := by decide +kernel
theorem dX10_layFar_104 : decode cX10_layFar 104 = .ok (.lmul, 1) := by decide +kernel
theorem dX10_layFar_105 : decode cX10_layFar 105 = .ok (.putfield 170, 3) := by decide +kernel
theorem dX10_layFar_108 : decode cX10_layFar 108 = .ok (.iconst 1, 1) := by decide +kernel
theorem dX10_layFar_109 : decode cX10_layFar 109 = .ok (.ireturn, 1) := by decide +kernel
theorem dX10_far_0 : decode cX10_far 0 = .ok (.iload_n 1, 1) := by decide +kernel
theorem dX10_far_1 : decode cX10_far 1 = .ok (.invokestatic 79, 3) := by decide +kernel
theorem dX10_far_4 : decode cX10_far 4 = .ok (.ifCond .eq 10, 3) := by decide +kernel
theorem dX10_far_7 : decode cX10_far 7 = .ok (.iload_n 2, 1) := by decide +kernel
theorem dX10_far_8 : decode cX10_far 8 = .ok (.invokestatic 79, 3) := by decide +kernel
theorem dX10_far_11 : decode cX10_far 11 = .ok (.ifCond .ne 7, 3) := by decide +kernel
theorem dX10_far_14 : decode cX10_far 14 = .ok (.ldc2_w 173, 3) := by decide +kernel
theorem dX10_far_17 : decode cX10_far 17 = .ok (.lreturn, 1) := by decide +kernel
theorem dX10_far_18 : decode cX10_far 18 = .ok (.iload_n 3, 1) := by decide +kernel
theorem dX10_far_19 : decode cX10_far 19 = .ok (.invokestatic 84, 3) := by decide +kernel
theorem dX10_far_22 : decode cX10_far 22 = .ok (.ifCond .ne 7, 3) := by decide +kernel
theorem dX10_far_25 : decode cX10_far 25 = .ok (.ldc2_w 175, 3) := by decide +kernel
theorem dX10_far_28 : decode cX10_far 28 = .ok (.lreturn, 1) := by decide +kernel
theorem dX10_far_29 : decode cX10_far 29 = .ok (.aload_n 0, 1) := by decide +kernel
theorem dX10_far_30 : decode cX10_far 30 = .ok (.iload_n 1, 1) := by decide +kernel
theorem dX10_far_31 : decode cX10_far 31 = .ok (.iload_n 2, 1) := by decide +kernel
theorem dX10_far_32 : decode cX10_far 32 = .ok (.iload_n 3, 1) := by decide +kernel
theorem dX10_far_33 : decode cX10_far 33 = .ok (.invokevirtual 177, 3) := by decide +kernel
theorem dX10_far_36 : decode cX10_far 36 = .ok (.ifCond .eq 19, 3) := by decide +kernel
theorem dX10_far_39 : decode cX10_far 39 = .ok (.aload_n 0, 1) := by decide +kernel
theorem dX10_far_40 : decode cX10_far 40 = .ok (.getfield 167, 3) := by decide +kernel
theorem dX10_far_43 : decode cX10_far 43 = .ok (.aload_n 0, 1) := by decide +kernel
theorem dX10_far_44 : decode cX10_far 44 = .ok (.getfield 170, 3) := by decide +kernel
theorem dX10_far_47 : decode cX10_far 47 = .ok (.iload 4, 2) := by decide +kernel
theorem dX10_far_49 : decode cX10_far 49 = .ok (.invokestatic 133, 3) := by decide +kernel
theorem dX10_far_52 : decode cX10_far 52 = .ok (.goto 6, 3) := by decide +kernel
theorem dX10_far_55 : decode cX10_far 55 = .ok (.ldc2_w 181, 3) := by decide +kernel
theorem dX10_far_58 : decode cX10_far 58 = .ok (.lreturn, 1) := by decide +kernel
theorem dX10_placeOf_0 : decode cX10_placeOf 0 = .ok (.aload_n 0, 1) := by decide +kernel
theorem dX10_placeOf_1 : decode cX10_placeOf 1 = .ok (.iload_n 1, 1) := by decide +kernel
theorem dX10_placeOf_2 : decode cX10_placeOf 2 = .ok (.iload_n 2, 1) := by decide +kernel
theorem dX10_placeOf_3 : decode cX10_placeOf 3 = .ok (.iload_n 3, 1) := by decide +kernel
theorem dX10_placeOf_4 : decode cX10_placeOf 4 = .ok (.invokevirtual 177, 3) := by decide +kernel
theorem dX10_placeOf_7 : decode cX10_placeOf 7 = .ok (.istore 4, 2) := by decide +kernel
theorem dX10_placeOf_9 : decode cX10_placeOf 9 = .ok (.aload_n 0, 1) := by decide +kernel
theorem dX10_placeOf_10 : decode cX10_placeOf 10 = .ok (.getfield 167, 3) := by decide +kernel
theorem dX10_placeOf_13 : decode cX10_placeOf 13 = .ok (.lstore 5, 2) := by decide +kernel
theorem dX10_placeOf_15 : decode cX10_placeOf 15 = .ok (.aload_n 0, 1) := by decide +kernel
theorem dX10_placeOf_16 : decode cX10_placeOf 16 = .ok (.getfield 170, 3) := by decide +kernel
theorem dX10_placeOf_19 : decode cX10_placeOf 19 = .ok (.lstore 7, 2) := by decide +kernel
theorem dX10_placeOf_21 : decode cX10_placeOf 21 = .ok (.iconst 0, 1) := by decide +kernel
theorem dX10_placeOf_22 : decode cX10_placeOf 22 = .ok (.istore 9, 2) := by decide +kernel
theorem dX10_placeOf_24 : decode cX10_placeOf 24 = .ok (.iconst 0, 1) := by decide +kernel
theorem dX10_placeOf_25 : decode cX10_placeOf 25 = .ok (.istore 10, 2) := by decide +kernel
theorem dX10_placeOf_27 : decode cX10_placeOf 27 = .ok (.iload 10, 2) := by decide +kernel
theorem dX10_placeOf_29 : decode cX10_placeOf 29 = .ok (.bipush 10, 2) := by decide +kernel
theorem dX10_placeOf_31 : decode cX10_placeOf 31 = .ok (.if_icmp .ge 82, 3) := by decide +kernel
theorem dX10_placeOf_34 : decode cX10_placeOf 34 = .ok (.iload 10, 2) := by decide +kernel
theorem dX10_placeOf_36 : decode cX10_placeOf 36 = .ok (.iload_n 1, 1) := by decide +kernel
theorem dX10_placeOf_37 : decode cX10_placeOf 37 = .ok (.if_icmp .eq 70, 3) := by decide +kernel
theorem dX10_placeOf_40 : decode cX10_placeOf 40 = .ok (.iload 10, 2) := by decide +kernel
theorem dX10_placeOf_42 : decode cX10_placeOf 42 = .ok (.iload_n 2, 1) := by decide +kernel
theorem dX10_placeOf_43 : decode cX10_placeOf 43 = .ok (.if_icmp .eq 64, 3) := by decide +kernel
theorem dX10_placeOf_46 : decode cX10_placeOf 46 = .ok (.aload_n 0, 1) := by decide +kernel
theorem dX10_placeOf_47 : decode cX10_placeOf 47 = .ok (.iload_n 1, 1) := by decide +kernel
theorem dX10_placeOf_48 : decode cX10_placeOf 48 = .ok (.iload 10, 2) := by decide +kernel
theorem dX10_placeOf_50 : decode cX10_placeOf 50 = .ok (.iload_n 3, 1) := by decide +kernel
theorem dX10_placeOf_51 : decode cX10_placeOf 51 = .ok (.invokevirtual 177, 3) := by decide +kernel
theorem dX10_placeOf_54 : decode cX10_placeOf 54 = .ok (.ifCond .eq 53, 3) := by decide +kernel
theorem dX10_placeOf_57 : decode cX10_placeOf 57 = .ok (.aload_n 0, 1) := by decide +kernel
theorem dX10_placeOf_58 : decode cX10_placeOf 58 = .ok (.getfield 167, 3) := by decide +kernel
theorem dX10_placeOf_61 : decode cX10_placeOf 61 = .ok (.lload 7, 2) := by decide +kernel
theorem dX10_placeOf_63 : decode cX10_placeOf 63 = .ok (.lmul, 1) := by decide +kernel
theorem dX10_placeOf_64 : decode cX10_placeOf 64 = .ok (.lstore 11, 2) := by decide +kernel
theorem dX10_placeOf_66 : decode cX10_placeOf 66 = .ok (.lload 5, 2) := by decide +kernel
theorem dX10_placeOf_68 : decode cX10_placeOf 68 = .ok (.aload_n 0, 1) := by decide +kernel
theorem dX10_placeOf_69 : decode cX10_placeOf 69 = .ok (.getfield 170, 3) := by decide +kernel
theorem dX10_placeOf_72 : decode cX10_placeOf 72 = .ok (.lmul, 1) := by decide +kernel
theorem dX10_placeOf_73 : decode cX10_placeOf 73 = .ok (.lstore 13, 2) := by decide +kernel
theorem dX10_placeOf_75 : decode cX10_placeOf 75 = .ok (.iload 9, 2) := by decide +kernel
theorem dX10_placeOf_77 : decode cX10_placeOf 77 = .ok (.lload 11, 2) := by decide +kernel
theorem dX10_placeOf_79 : decode cX10_placeOf 79 = .ok (.lload 13, 2) := by decide +kernel
theorem dX10_placeOf_81 : decode cX10_placeOf 81 = .ok (.lcmp, 1) := by decide +kernel
theorem dX10_placeOf_82 : decode cX10_placeOf 82 = .ok (.ifCond .lt 17, 3) := by decide +kernel
theorem dX10_placeOf_85 : decode cX10_placeOf 85 = .ok (.lload 11, 2) := by decide +kernel
theorem dX10_placeOf_87 : decode cX10_placeOf 87 = .ok (.lload 13, 2) := by decide +kernel
theorem dX10_placeOf_89 : decode cX10_placeOf 89 = .ok (.lcmp, 1) := by decide +kernel
theorem dX10_placeOf_90 : decode cX10_placeOf 90 = .ok (.ifCond .ne 13, 3) := by decide +kernel
theorem dX10_placeOf_93 : decode cX10_placeOf 93 = .ok (.iload 10, 2) := by decide +kernel
theorem dX10_placeOf_95 : decode cX10_placeOf 95 = .ok (.iload_n 2, 1) := by decide +kernel
theorem dX10_placeOf_96 : decode cX10_placeOf 96 = .ok (.if_icmp .ge 7, 3) := by decide +kernel
theorem dX10_placeOf_99 : decode cX10_placeOf 99 = .ok (.iconst 1, 1) := by decide +kernel
theorem dX10_placeOf_100 : decode cX10_placeOf 100 = .ok (.goto 4, 3) := by decide +kernel
theorem dX10_placeOf_103 : decode cX10_placeOf 103 = .ok (.iconst 0, 1) := by decide +kernel
theorem dX10_placeOf_104 : decode cX10_placeOf 104 = .ok (.iadd, 1) := by decide +kernel
theorem dX10_placeOf_105 : decode cX10_placeOf 105 = .ok (.istore 9, 2) := by decide +kernel
theorem dX10_placeOf_107 : decode cX10_placeOf 107 = .ok (.iinc 10 1, 3) := by decide +kernel
theorem dX10_placeOf_110 : decode cX10_placeOf 110 = .ok (.goto (-83), 3) := by decide +kernel
theorem dX10_placeOf_113 : decode cX10_placeOf 113 = .ok (.iload 9, 2) := by decide +kernel
theorem dX10_placeOf_115 : decode cX10_placeOf 115 = .ok (.ireturn, 1) := by decide +kernel
theorem dX10_nearest_0 : decode cX10_nearest 0 = .ok (.iload_n 1, 1) := by decide +kernel
theorem dX10_nearest_1 : decode cX10_nearest 1 = .ok (.invokestatic 79, 3) := by decide +kernel
theorem dX10_nearest_4 : decode cX10_nearest 4 = .ok (.ifCond .ne 6, 3) := by decide +kernel
theorem dX10_nearest_7 : decode cX10_nearest 7 = .ok (.ldc 83, 2) := by decide +kernel
theorem dX10_nearest_9 : decode cX10_nearest 9 = .ok (.ireturn, 1) := by decide +kernel
theorem dX10_nearest_10 : decode cX10_nearest 10 = .ok (.iload_n 2, 1) := by decide +kernel
theorem dX10_nearest_11 : decode cX10_nearest 11 = .ok (.invokestatic 84, 3) := by decide +kernel
theorem dX10_nearest_14 : decode cX10_nearest 14 = .ok (.ifCond .ne 6, 3) := by decide +kernel
theorem dX10_nearest_17 : decode cX10_nearest 17 = .ok (.ldc 89, 2) := by decide +kernel
theorem dX10_nearest_19 : decode cX10_nearest 19 = .ok (.ireturn, 1) := by decide +kernel
theorem dX10_nearest_20 : decode cX10_nearest 20 = .ok (.aload_n 0, 1) := by decide +kernel
theorem dX10_nearest_21 : decode cX10_nearest 21 = .ok (.iload_n 1, 1) := by decide +kernel
theorem dX10_nearest_22 : decode cX10_nearest 22 = .ok (.iload_n 2, 1) := by decide +kernel
theorem dX10_nearest_23 : decode cX10_nearest 23 = .ok (.invokevirtual 130, 3) := by decide +kernel
theorem dX10_nearest_26 : decode cX10_nearest 26 = .ok (.ifCond .ne 6, 3) := by decide +kernel
theorem dX10_nearest_29 : decode cX10_nearest 29 = .ok (.ldc 137, 2) := by decide +kernel
theorem dX10_nearest_31 : decode cX10_nearest 31 = .ok (.ireturn, 1) := by decide +kernel
theorem dX10_nearest_32 : decode cX10_nearest 32 = .ok (.iconst 0, 1) := by decide +kernel
theorem dX10_nearest_33 : decode cX10_nearest 33 = .ok (.istore 4, 2) := by decide +kernel
theorem dX10_nearest_35 : decode cX10_nearest 35 = .ok (.iload 4, 2) := by decide +kernel
theorem dX10_nearest_37 : decode cX10_nearest 37 = .ok (.bipush 10, 2) := by decide +kernel
theorem dX10_nearest_39 : decode cX10_nearest 39 = .ok (.if_icmp .ge 40, 3) := by decide +kernel
theorem dX10_nearest_42 : decode cX10_nearest 42 = .ok (.iload 4, 2) := by decide +kernel
theorem dX10_nearest_44 : decode cX10_nearest 44 = .ok (.iload_n 1, 1) := by decide +kernel
theorem dX10_nearest_45 : decode cX10_nearest 45 = .ok (.if_icmp .eq 28, 3) := by decide +kernel
theorem dX10_nearest_48 : decode cX10_nearest 48 = .ok (.aload_n 0, 1) := by decide +kernel
theorem dX10_nearest_49 : decode cX10_nearest 49 = .ok (.iload 4, 2) := by decide +kernel
theorem dX10_nearest_51 : decode cX10_nearest 51 = .ok (.iload_n 2, 1) := by decide +kernel
theorem dX10_nearest_52 : decode cX10_nearest 52 = .ok (.invokevirtual 130, 3) := by decide +kernel
theorem dX10_nearest_55 : decode cX10_nearest 55 = .ok (.ifCond .eq 18, 3) := by decide +kernel
theorem dX10_nearest_58 : decode cX10_nearest 58 = .ok (.aload_n 0, 1) := by decide +kernel
theorem dX10_nearest_59 : decode cX10_nearest 59 = .ok (.iload_n 1, 1) := by decide +kernel
theorem dX10_nearest_60 : decode cX10_nearest 60 = .ok (.iload 4, 2) := by decide +kernel
theorem dX10_nearest_62 : decode cX10_nearest 62 = .ok (.iload_n 2, 1) := by decide +kernel
theorem dX10_nearest_63 : decode cX10_nearest 63 = .ok (.invokevirtual 183, 3) := by decide +kernel
theorem dX10_nearest_66 : decode cX10_nearest 66 = .ok (.iload_n 3, 1) := by decide +kernel
theorem dX10_nearest_67 : decode cX10_nearest 67 = .ok (.if_icmp .ne 6, 3) := by decide +kernel
theorem dX10_nearest_70 : decode cX10_nearest 70 = .ok (.iload 4, 2) := by decide +kernel
theorem dX10_nearest_72 : decode cX10_nearest 72 = .ok (.ireturn, 1) := by decide +kernel
theorem dX10_nearest_73 : decode cX10_nearest 73 = .ok (.iinc 4 1, 3) := by decide +kernel
theorem dX10_nearest_76 : decode cX10_nearest 76 = .ok (.goto (-41), 3) := by decide +kernel
theorem dX10_nearest_79 : decode cX10_nearest 79 = .ok (.ldc 149, 2) := by decide +kernel
theorem dX10_nearest_81 : decode cX10_nearest 81 = .ok (.ireturn, 1) := by decide +kernel
theorem dX10_layMeetings_0 : decode cX10_layMeetings 0 = .ok (.aload_n 0, 1) := by decide +kernel
theorem dX10_layMeetings_1 : decode cX10_layMeetings 1 = .ok (.invokevirtual 156, 3) := by decide +kernel
theorem dX10_layMeetings_4 : decode cX10_layMeetings 4 = .ok (.iconst 0, 1) := by decide +kernel
theorem dX10_layMeetings_5 : decode cX10_layMeetings 5 = .ok (.istore 4, 2) := by decide +kernel
theorem dX10_layMeetings_7 : decode cX10_layMeetings 7 = .ok (.iload 4, 2) := by decide +kernel
theorem dX10_layMeetings_9 : decode cX10_layMeetings 9 = .ok (.sipush 200, 3) := by decide +kernel
theorem dX10_layMeetings_12 : decode cX10_layMeetings 12 = .ok (.if_icmp .ge 53, 3) := by decide +kernel
theorem dX10_layMeetings_15 : decode cX10_layMeetings 15 = .ok (.aload_n 0, 1) := by decide +kernel
theorem dX10_layMeetings_16 : decode cX10_layMeetings 16 = .ok (.iload_n 1, 1) := by decide +kernel
theorem dX10_layMeetings_17 : decode cX10_layMeetings 17 = .ok (.iload_n 2, 1) := by decide +kernel
theorem dX10_layMeetings_18 : decode cX10_layMeetings 18 = .ok (.iload 4, 2) := by decide +kernel
theorem dX10_layMeetings_20 : decode cX10_layMeetings 20 = .ok (.invokevirtual 177, 3) := by decide +kernel
theorem dX10_layMeetings_23 : decode cX10_layMeetings 23 = .ok (.istore 5, 2) := by decide +kernel
theorem dX10_layMeetings_25 : decode cX10_layMeetings 25 = .ok (.aload_n 0, 1) := by decide +kernel
theorem dX10_layMeetings_26 : decode cX10_layMeetings 26 = .ok (.iload 4, 2) := by decide +kernel
theorem dX10_layMeetings_28 : decode cX10_layMeetings 28 = .ok (.iload 5, 2) := by decide +kernel
theorem dX10_layMeetings_30 : decode cX10_layMeetings 30 = .ok (.ifCond .eq 25, 3) := by decide +kernel
theorem dX10_layMeetings_33 : decode cX10_layMeetings 33 = .ok (.aload_n 0, 1) := by decide +kernel
theorem dX10_layMeetings_34 : decode cX10_layMeetings 34 = .ok (.getfield 167, 3) := by decide +kernel
theorem dX10_layMeetings_37 : decode cX10_layMeetings 37 = .ok (.iload_n 3, 1) := by decide +kernel
theorem dX10_layMeetings_38 : decode cX10_layMeetings 38 = .ok (.i2l, 1) := by decide +kernel
theorem dX10_layMeetings_39 : decode cX10_layMeetings 39 = .ok (.iload_n 3, 1) := by decide +kernel
theorem dX10_layMeetings_40 : decode cX10_layMeetings 40 = .ok (.i2l, 1) := by decide +kernel
theorem dX10_layMeetings_41 : decode cX10_layMeetings 41 = .ok (.lmul, 1) := by decide +kernel
theorem dX10_layMeetings_42 : decode cX10_layMeetings 42 = .ok (.aload_n 0, 1) := by decide +kernel
theorem dX10_layMeetings_43 : decode cX10_layMeetings 43 = .ok (.getfield 170, 3) := by decide +kernel
theorem dX10_layMeetings_46 : decode cX10_layMeetings 46 = .ok (.lmul, 1) := by decide +kernel
theorem dX10_layMeetings_47 : decode cX10_layMeetings 47 = .ok (.lcmp, 1) := by decide +kernel
theorem dX10_layMeetings_48 : decode cX10_layMeetings 48 = .ok (.ifCond .gt 7, 3) := by decide +kernel
theorem dX10_layMeetings_51 : decode cX10_layMeetings 51 = .ok (.iconst 1, 1) := by decide +kernel
theorem dX10_layMeetings_52 : decode cX10_layMeetings 52 = .ok (.goto 4, 3) := by decide +kernel
theorem dX10_layMeetings_55 : decode cX10_layMeetings 55 = .ok (.iconst 0, 1) := by decide +kernel
theorem dX10_layMeetings_56 : decode cX10_layMeetings 56 = .ok (.invokevirtual 159, 3) := by decide +kernel
theorem dX10_layMeetings_59 : decode cX10_layMeetings 59 = .ok (.iinc 4 1, 3) := by decide +kernel
theorem dX10_layMeetings_62 : decode cX10_layMeetings 62 = .ok (.goto (-55), 3) := by decide +kernel
theorem dX10_layMeetings_65 : decode cX10_layMeetings 65 = .ok (.return_, 1) := by decide +kernel
theorem dX10_mayMeet_0 : decode cX10_mayMeet 0 = .ok (.iload_n 1, 1) := by decide +kernel
theorem dX10_mayMeet_1 : decode cX10_mayMeet 1 = .ok (.invokestatic 79, 3) := by decide +kernel
theorem dX10_mayMeet_4 : decode cX10_mayMeet 4 = .ok (.ifCond .eq 10, 3) := by decide +kernel
theorem dX10_mayMeet_7 : decode cX10_mayMeet 7 = .ok (.iload_n 2, 1) := by decide +kernel
theorem dX10_mayMeet_8 : decode cX10_mayMeet 8 = .ok (.invokestatic 79, 3) := by decide +kernel
theorem dX10_mayMeet_11 : decode cX10_mayMeet 11 = .ok (.ifCond .ne 6, 3) := by decide +kernel
theorem dX10_mayMeet_14 : decode cX10_mayMeet 14 = .ok (.ldc 83, 2) := by decide +kernel
theorem dX10_mayMeet_16 : decode cX10_mayMeet 16 = .ok (.ireturn, 1) := by decide +kernel
theorem dX10_mayMeet_17 : decode cX10_mayMeet 17 = .ok (.iload_n 3, 1) := by decide +kernel
theorem dX10_mayMeet_18 : decode cX10_mayMeet 18 = .ok (.i2l, 1) := by decide +kernel
theorem dX10_mayMeet_19 : decode cX10_mayMeet 19 = .ok (.lconst 0, 1) := by decide +kernel
theorem dX10_mayMeet_20 : decode cX10_mayMeet 20 = .ok (.ldc2_w 187, 3) := by decide +kernel
theorem dX10_mayMeet_23 : decode cX10_mayMeet 23 = .ok (.invokestatic 73, 3) := by decide +kernel
theorem dX10_mayMeet_26 : decode cX10_mayMeet 26 = .ok (.ifCond .ne 8, 3) := by decide +kernel
theorem dX10_mayMeet_29 : decode cX10_mayMeet 29 = .ok (.ldc 89, 2) := by decide +kernel
theorem dX10_mayMeet_31 : decode cX10_mayMeet 31 = .ok (.goto 14, 3) := by decide +kernel
theorem dX10_mayMeet_34 : decode cX10_mayMeet 34 = .ok (.iload_n 1, 1) := by decide +kernel
theorem dX10_mayMeet_35 : decode cX10_mayMeet 35 = .ok (.iload_n 2, 1) := by decide +kernel
theorem dX10_mayMeet_36 : decode cX10_mayMeet 36 = .ok (.if_icmp .ne 8, 3) := by decide +kernel
theorem dX10_mayMeet_39 : decode cX10_mayMeet 39 = .ok (.ldc 137, 2) := by decide +kernel
theorem dX10_mayMeet_41 : decode cX10_mayMeet 41 = .ok (.goto 4, 3) := by decide +kernel
theorem dX10_mayMeet_44 : decode cX10_mayMeet 44 = .ok (.iconst 0, 1) := by decide +kernel
theorem dX10_mayMeet_45 : decode cX10_mayMeet 45 = .ok (.ireturn, 1) := by decide +kernel
theorem dX10_meetings_0 : decode cX10_meetings 0 = .ok (.aload_n 0, 1) := by decide +kernel
theorem dX10_meetings_1 : decode cX10_meetings 1 = .ok (.iload_n 1, 1) := by decide +kernel
theorem dX10_meetings_2 : decode cX10_meetings 2 = .ok (.iload_n 2, 1) := by decide +kernel
theorem dX10_meetings_3 : decode cX10_meetings 3 = .ok (.iload_n 3, 1) := by decide +kernel
theorem dX10_meetings_4 : decode cX10_meetings 4 = .ok (.invokevirtual 189, 3) := by decide +kernel
theorem dX10_meetings_7 : decode cX10_meetings 7 = .ok (.istore 4, 2) := by decide +kernel
theorem dX10_meetings_9 : decode cX10_meetings 9 = .ok (.iload 4, 2) := by decide +kernel
theorem dX10_meetings_11 : decode cX10_meetings 11 = .ok (.ifCond .ge 6, 3) := by decide +kernel
theorem dX10_meetings_14 : decode cX10_meetings 14 = .ok (.iload 4, 2) := by decide +kernel
theorem dX10_meetings_16 : decode cX10_meetings 16 = .ok (.ireturn, 1) := by decide +kernel
theorem dX10_meetings_17 : decode cX10_meetings 17 = .ok (.aload_n 0, 1) := by decide +kernel
theorem dX10_meetings_18 : decode cX10_meetings 18 = .ok (.iload_n 1, 1) := by decide +kernel
theorem dX10_meetings_19 : decode cX10_meetings 19 = .ok (.iload_n 2, 1) := by decide +kernel
theorem dX10_meetings_20 : decode cX10_meetings 20 = .ok (.iload_n 3, 1) := by decide +kernel
theorem dX10_meetings_21 : decode cX10_meetings 21 = .ok (.invokevirtual 192, 3) := by decide +kernel
theorem dX10_meetings_24 : decode cX10_meetings 24 = .ok (.aload_n 0, 1) := by decide +kernel
theorem dX10_meetings_25 : decode cX10_meetings 25 = .ok (.getfield 150, 3) := by decide +kernel
theorem dX10_meetings_28 : decode cX10_meetings 28 = .ok (.ireturn, 1) := by decide +kernel
theorem dX10_longest_0 : decode cX10_longest 0 = .ok (.aload_n 0, 1) := by decide +kernel
theorem dX10_longest_1 : decode cX10_longest 1 = .ok (.iload_n 1, 1) := by decide +kernel
theorem dX10_longest_2 : decode cX10_longest 2 = .ok (.iload_n 2, 1) := by decide +kernel
theorem dX10_longest_3 : decode cX10_longest 3 = .ok (.iload_n 3, 1) := by decide +kernel
theorem dX10_longest_4 : decode cX10_longest 4 = .ok (.invokevirtual 189, 3) := by decide +kernel
theorem dX10_longest_7 : decode cX10_longest 7 = .ok (.istore 5, 2) := by decide +kernel
theorem dX10_longest_9 : decode cX10_longest 9 = .ok (.iload 5, 2) := by decide +kernel
theorem dX10_longest_11 : decode cX10_longest 11 = .ok (.ifCond .ge 6, 3) := by decide +kernel
theorem dX10_longest_14 : decode cX10_longest 14 = .ok (.iload 5, 2) := by decide +kernel
theorem dX10_longest_16 : decode cX10_longest 16 = .ok (.ireturn, 1) := by decide +kernel
theorem dX10_longest_17 : decode cX10_longest 17 = .ok (.aload_n 0, 1) := by decide +kernel
theorem dX10_longest_18 : decode cX10_longest 18 = .ok (.iload_n 1, 1) := by decide +kernel
theorem dX10_longest_19 : decode cX10_longest 19 = .ok (.iload_n 2, 1) := by decide +kernel
theorem dX10_longest_20 : decode cX10_longest 20 = .ok (.iload_n 3, 1) := by decide +kernel
theorem dX10_longest_21 : decode cX10_longest 21 = .ok (.invokevirtual 192, 3) := by decide +kernel
theorem dX10_longest_24 : decode cX10_longest 24 = .ok (.ldc 149, 2) := by decide +kernel
theorem dX10_longest_26 : decode cX10_longest 26 = .ok (.istore 6, 2) := by decide +kernel
theorem dX10_longest_28 : decode cX10_longest 28 = .ok (.iconst 0, 1) := by decide +kernel
theorem dX10_longest_29 : decode cX10_longest 29 = .ok (.istore 7, 2) := by decide +kernel
theorem dX10_longest_31 : decode cX10_longest 31 = .ok (.iconst 0, 1) := by decide +kernel
theorem dX10_longest_32 : decode cX10_longest 32 = .ok (.istore 8, 2) := by decide +kernel
theorem dX10_longest_34 : decode cX10_longest 34 = .ok (.iload 8, 2) := by decide +kernel
theorem dX10_longest_36 : decode cX10_longest 36 = .ok (.aload_n 0, 1) := by decide +kernel
theorem dX10_longest_37 : decode cX10_longest 37 = .ok (.getfield 150, 3) := by decide +kernel
theorem dX10_longest_40 : decode cX10_longest 40 = .ok (.if_icmp .ge 60, 3) := by decide +kernel
theorem dX10_longest_43 : decode cX10_longest 43 = .ok (.aload_n 0, 1) := by decide +kernel
theorem dX10_longest_44 : decode cX10_longest 44 = .ok (.getfield 28, 3) := by decide +kernel
theorem dX10_longest_47 : decode cX10_longest 47 = .ok (.iload 8, 2) := by decide +kernel
theorem dX10_longest_49 : decode cX10_longest 49 = .ok (.iaload, 1) := by decide +kernel
theorem dX10_longest_50 : decode cX10_longest 50 = .ok (.aload_n 0, 1) := by decide +kernel
theorem dX10_longest_51 : decode cX10_longest 51 = .ok (.getfield 25, 3) := by decide +kernel
theorem dX10_longest_54 : decode cX10_longest 54 = .ok (.iload 8, 2) := by decide +kernel
theorem dX10_longest_56 : decode cX10_longest 56 = .ok (.iaload, 1) := by decide +kernel
theorem dX10_longest_57 : decode cX10_longest 57 = .ok (.isub, 1) := by decide +kernel
theorem dX10_longest_58 : decode cX10_longest 58 = .ok (.iconst 1, 1) := by decide +kernel
theorem dX10_longest_59 : decode cX10_longest 59 = .ok (.iadd, 1) := by decide +kernel
theorem dX10_longest_60 : decode cX10_longest 60 = .ok (.istore 9, 2) := by decide +kernel
theorem dX10_longest_62 : decode cX10_longest 62 = .ok (.iload 9, 2) := by decide +kernel
theorem dX10_longest_64 : decode cX10_longest 64 = .ok (.iload 7, 2) := by decide +kernel
theorem dX10_longest_66 : decode cX10_longest 66 = .ok (.if_icmp .le 8, 3) := by decide +kernel
theorem dX10_longest_69 : decode cX10_longest 69 = .ok (.iload 8, 2) := by decide +kernel
theorem dX10_longest_71 : decode cX10_longest 71 = .ok (.goto 5, 3) := by decide +kernel
theorem dX10_longest_74 : decode cX10_longest 74 = .ok (.iload 6, 2) := by decide +kernel
theorem dX10_longest_76 : decode cX10_longest 76 = .ok (.istore 6, 2) := by decide +kernel
theorem dX10_longest_78 : decode cX10_longest 78 = .ok (.iload 9, 2) := by decide +kernel
theorem dX10_longest_80 : decode cX10_longest 80 = .ok (.iload 7, 2) := by decide +kernel
theorem dX10_longest_82 : decode cX10_longest 82 = .ok (.if_icmp .le 8, 3) := by decide +kernel
theorem dX10_longest_85 : decode cX10_longest 85 = .ok (.iload 9, 2) := by decide +kernel
theorem dX10_longest_87 : decode cX10_longest 87 = .ok (.goto 5, 3) := by decide +kernel
theorem dX10_longest_90 : decode cX10_longest 90 = .ok (.iload 7, 2) := by decide +kernel
theorem dX10_longest_92 : decode cX10_longest 92 = .ok (.istore 7, 2) := by decide +kernel
theorem dX10_longest_94 : decode cX10_longest 94 = .ok (.iinc 8 1, 3) := by decide +kernel
theorem dX10_longest_97 : decode cX10_longest 97 = .ok (.goto (-63), 3) := by decide +kernel
theorem dX10_longest_100 : decode cX10_longest 100 = .ok (.iload 6, 2) := by decide +kernel
theorem dX10_longest_102 : decode cX10_longest 102 = .ok (.ldc 149, 2) := by decide +kernel
theorem dX10_longest_104 : decode cX10_longest 104 = .ok (.if_icmp .ne 8, 3) := by decide +kernel
theorem dX10_longest_107 : decode cX10_longest 107 = .ok (.ldc 149, 2) := by decide +kernel
theorem dX10_longest_109 : decode cX10_longest 109 = .ok (.goto 20, 3) := by decide +kernel
theorem dX10_longest_112 : decode cX10_longest 112 = .ok (.iload 4, 2) := by decide +kernel
theorem dX10_longest_114 : decode cX10_longest 114 = .ok (.ifCond .eq 8, 3) := by decide +kernel
theorem dX10_longest_117 : decode cX10_longest 117 = .ok (.iload 7, 2) := by decide +kernel
theorem dX10_longest_119 : decode cX10_longest 119 = .ok (.goto 10, 3) := by decide +kernel
theorem dX10_longest_122 : decode cX10_longest 122 = .ok (.aload_n 0, 1) := by decide +kernel
theorem dX10_longest_123 : decode cX10_longest 123 = .ok (.getfield 25, 3) := by decide +kernel
theorem dX10_longest_126 : decode cX10_longest 126 = .ok (.iload 6, 2) := by decide +kernel
theorem dX10_longest_128 : decode cX10_longest 128 = .ok (.iaload, 1) := by decide +kernel
theorem dX10_longest_129 : decode cX10_longest 129 = .ok (.ireturn, 1) := by decide +kernel
theorem dX10_layLegs_0 : decode cX10_layLegs 0 = .ok (.aload_n 0, 1) := by decide +kernel
theorem dX10_layLegs_1 : decode cX10_layLegs 1 = .ok (.iconst 0, 1) := by decide +kernel
theorem dX10_layLegs_2 : decode cX10_layLegs 2 = .ok (.putfield 195, 3) := by decide +kernel
theorem dX10_layLegs_5 : decode cX10_layLegs 5 = .ok (.iconst 0, 1) := by decide +kernel
theorem dX10_layLegs_6 : decode cX10_layLegs 6 = .ok (.istore_n 1, 1) := by decide +kernel
theorem dX10_layLegs_7 : decode cX10_layLegs 7 = .ok (.iload_n 1, 1) := by decide +kernel
theorem dX10_layLegs_8 : decode cX10_layLegs 8 = .ok (.bipush 10, 2) := by decide +kernel
theorem dX10_layLegs_10 : decode cX10_layLegs 10 = .ok (.if_icmp .ge 110, 3) := by decide +kernel
theorem dX10_layLegs_13 : decode cX10_layLegs 13 = .ok (.iconst 1, 1) := by decide +kernel
theorem dX10_layLegs_14 : decode cX10_layLegs 14 = .ok (.istore_n 2, 1) := by decide +kernel
theorem dX10_layLegs_15 : decode cX10_layLegs 15 = .ok (.iload_n 2, 1) := by decide +kernel
theorem dX10_layLegs_16 : decode cX10_layLegs 16 = .ok (.aload_n 0, 1) := by decide +kernel
theorem dX10_layLegs_17 : decode cX10_layLegs 17 = .ok (.getfield 7, 3) := by decide +kernel
theorem dX10_layLegs_20 : decode cX10_layLegs 20 = .ok (.iload_n 1, 1) := by decide +kernel
theorem dX10_layLegs_21 : decode cX10_layLegs 21 = .ok (.iaload, 1) := by decide +kernel
theorem dX10_layLegs_22 : decode cX10_layLegs 22 = .ok (.if_icmp .ge 92, 3) := by decide +kernel
theorem dX10_layLegs_25 : decode cX10_layLegs 25 = .ok (.aload_n 0, 1) := by decide +kernel
theorem dX10_layLegs_26 : decode cX10_layLegs 26 = .ok (.iload_n 1, 1) := by decide +kernel
theorem dX10_layLegs_27 : decode cX10_layLegs 27 = .ok (.iload_n 2, 1) := by decide +kernel
theorem dX10_layLegs_28 : decode cX10_layLegs 28 = .ok (.invokevirtual 120, 3) := by decide +kernel
theorem dX10_layLegs_31 : decode cX10_layLegs 31 = .ok (.ifCond .eq 77, 3) := by decide +kernel
theorem dX10_layLegs_34 : decode cX10_layLegs 34 = .ok (.bipush 24, 2) := by decide +kernel
theorem dX10_layLegs_36 : decode cX10_layLegs 36 = .ok (.iload_n 1, 1) := by decide +kernel
theorem dX10_layLegs_37 : decode cX10_layLegs 37 = .ok (.imul, 1) := by decide +kernel
theorem dX10_layLegs_38 : decode cX10_layLegs 38 = .ok (.iload_n 2, 1) := by decide +kernel
theorem dX10_layLegs_39 : decode cX10_layLegs 39 = .ok (.iadd, 1) := by decide +kernel
theorem dX10_layLegs_40 : decode cX10_layLegs 40 = .ok (.istore_n 3, 1) := by decide +kernel
theorem dX10_layLegs_41 : decode cX10_layLegs 41 = .ok (.aload_n 0, 1) := by decide +kernel
theorem dX10_layLegs_42 : decode cX10_layLegs 42 = .ok (.iconst 0, 1) := by decide +kernel
theorem dX10_layLegs_43 : decode cX10_layLegs 43 = .ok (.aload_n 0, 1) := by decide +kernel
theorem dX10_layLegs_44 : decode cX10_layLegs 44 = .ok (.getfield 16, 3) := by decide +kernel
theorem dX10_layLegs_47 : decode cX10_layLegs 47 = .ok (.iload_n 3, 1) := by decide +kernel
theorem dX10_layLegs_48 : decode cX10_layLegs 48 = .ok (.iconst 1, 1) := by decide +kernel
theorem dX10_layLegs_49 : decode cX10_layLegs 49 = .ok (.isub, 1) := by decide +kernel
theorem dX10_layLegs_50 : decode cX10_layLegs 50 = .ok (.iaload, 1) := by decide +kernel
theorem dX10_layLegs_51 : decode cX10_layLegs 51 = .ok (.aload_n 0, 1) := by decide +kernel
theorem dX10_layLegs_52 : decode cX10_layLegs 52 = .ok (.getfield 16, 3) := by decide +kernel
theorem dX10_layLegs_55 : decode cX10_layLegs 55 = .ok (.iload_n 3, 1) := by decide +kernel
theorem dX10_layLegs_56 : decode cX10_layLegs 56 = .ok (.iaload, 1) := by decide +kernel
theorem dX10_layLegs_57 : decode cX10_layLegs 57 = .ok (.invokevirtual 198, 3) := by decide +kernel
theorem dX10_layLegs_60 : decode cX10_layLegs 60 = .ok (.aload_n 0, 1) := by decide +kernel
theorem dX10_layLegs_61 : decode cX10_layLegs 61 = .ok (.iconst 2, 1) := by decide +kernel
theorem dX10_layLegs_62 : decode cX10_layLegs 62 = .ok (.aload_n 0, 1) := by decide +kernel
theorem dX10_layLegs_63 : decode cX10_layLegs 63 = .ok (.getfield 19, 3) := by decide +kernel
theorem dX10_layLegs_66 : decode cX10_layLegs 66 = .ok (.iload_n 3, 1) := by decide +kernel
theorem dX10_layLegs_67 : decode cX10_layLegs 67 = .ok (.iconst 1, 1) := by decide +kernel
theorem dX10_layLegs_68 : decode cX10_layLegs 68 = .ok (.isub, 1) := by decide +kernel
theorem dX10_layLegs_69 : decode cX10_layLegs 69 = .ok (.iaload, 1) := by decide +kernel
theorem dX10_layLegs_70 : decode cX10_layLegs 70 = .ok (.aload_n 0, 1) := by decide +kernel
theorem dX10_layLegs_71 : decode cX10_layLegs 71 = .ok (.getfield 19, 3) := by decide +kernel
theorem dX10_layLegs_74 : decode cX10_layLegs 74 = .ok (.iload_n 3, 1) := by decide +kernel
theorem dX10_layLegs_75 : decode cX10_layLegs 75 = .ok (.iaload, 1) := by decide +kernel
theorem dX10_layLegs_76 : decode cX10_layLegs 76 = .ok (.invokevirtual 198, 3) := by decide +kernel
theorem dX10_layLegs_79 : decode cX10_layLegs 79 = .ok (.aload_n 0, 1) := by decide +kernel
theorem dX10_layLegs_80 : decode cX10_layLegs 80 = .ok (.iconst 4, 1) := by decide +kernel
theorem dX10_layLegs_81 : decode cX10_layLegs 81 = .ok (.aload_n 0, 1) := by decide +kernel
theorem dX10_layLegs_82 : decode cX10_layLegs 82 = .ok (.getfield 13, 3) := by decide +kernel
theorem dX10_layLegs_85 : decode cX10_layLegs 85 = .ok (.iload_n 3, 1) := by decide +kernel
theorem dX10_layLegs_86 : decode cX10_layLegs 86 = .ok (.iconst 1, 1) := by decide +kernel
theorem dX10_layLegs_87 : decode cX10_layLegs 87 = .ok (.isub, 1) := by decide +kernel
theorem dX10_layLegs_88 : decode cX10_layLegs 88 = .ok (.iaload, 1) := by decide +kernel
theorem dX10_layLegs_89 : decode cX10_layLegs 89 = .ok (.aload_n 0, 1) := by decide +kernel
theorem dX10_layLegs_90 : decode cX10_layLegs 90 = .ok (.getfield 13, 3) := by decide +kernel
theorem dX10_layLegs_93 : decode cX10_layLegs 93 = .ok (.iload_n 3, 1) := by decide +kernel
theorem dX10_layLegs_94 : decode cX10_layLegs 94 = .ok (.iaload, 1) := by decide +kernel
theorem dX10_layLegs_95 : decode cX10_layLegs 95 = .ok (.invokevirtual 198, 3) := by decide +kernel
theorem dX10_layLegs_98 : decode cX10_layLegs 98 = .ok (.aload_n 0, 1) := by decide +kernel
theorem dX10_layLegs_99 : decode cX10_layLegs 99 = .ok (.dup, 1) := by decide +kernel
theorem dX10_layLegs_100 : decode cX10_layLegs 100 = .ok (.getfield 195, 3) := by decide +kernel
theorem dX10_layLegs_103 : decode cX10_layLegs 103 = .ok (.iconst 1, 1) := by decide +kernel
theorem dX10_layLegs_104 : decode cX10_layLegs 104 = .ok (.iadd, 1) := by decide +kernel
theorem dX10_layLegs_105 : decode cX10_layLegs 105 = .ok (.putfield 195, 3) := by decide +kernel
theorem dX10_layLegs_108 : decode cX10_layLegs 108 = .ok (.iinc 2 1, 3) := by decide +kernel
theorem dX10_layLegs_111 : decode cX10_layLegs 111 = .ok (.goto (-96), 3) := by decide +kernel
theorem dX10_layLegs_114 : decode cX10_layLegs 114 = .ok (.iinc 1 1, 3) := by decide +kernel
theorem dX10_layLegs_117 : decode cX10_layLegs 117 = .ok (.goto (-110), 3) := by decide +kernel
theorem dX10_layLegs_120 : decode cX10_layLegs 120 = .ok (.return_, 1) := by decide +kernel
theorem dX10_span_0 : decode cX10_span 0 = .ok (.aload_n 0, 1) := by decide +kernel
theorem dX10_span_1 : decode cX10_span 1 = .ok (.getfield 31, 3) := by decide +kernel
theorem dX10_span_4 : decode cX10_span 4 = .ok (.bipush 6, 2) := by decide +kernel
theorem dX10_span_6 : decode cX10_span 6 = .ok (.aload_n 0, 1) := by decide +kernel
theorem dX10_span_7 : decode cX10_span 7 = .ok (.getfield 195, 3) := by decide +kernel
theorem dX10_span_10 : decode cX10_span 10 = .ok (.imul, 1) := by decide +kernel
theorem dX10_span_11 : decode cX10_span 11 = .ok (.iload_n 1, 1) := by decide +kernel
theorem dX10_span_12 : decode cX10_span 12 = .ok (.iadd, 1) := by decide +kernel
theorem dX10_span_13 : decode cX10_span 13 = .ok (.iload_n 2, 1) := by decide +kernel
theorem dX10_span_14 : decode cX10_span 14 = .ok (.iload_n 3, 1) := by decide +kernel
theorem dX10_span_15 : decode cX10_span 15 = .ok (.if_icmp .ge 7, 3) := by decide +kernel
theorem dX10_span_18 : decode cX10_span 18 = .ok (.iload_n 2, 1) := by decide +kernel
theorem dX10_span_19 : decode cX10_span 19 = .ok (.goto 4, 3) := by decide +kernel
theorem dX10_span_22 : decode cX10_span 22 = .ok (.iload_n 3, 1) := by decide +kernel
theorem dX10_span_23 : decode cX10_span 23 = .ok (.iastore, 1) := by decide +kernel
theorem dX10_span_24 : decode cX10_span 24 = .ok (.aload_n 0, 1) := by decide +kernel
theorem dX10_span_25 : decode cX10_span 25 = .ok (.getfield 31, 3) := by decide +kernel
theorem dX10_span_28 : decode cX10_span 28 = .ok (.bipush 6, 2) := by decide +kernel
theorem dX10_span_30 : decode cX10_span 30 = .ok (.aload_n 0, 1) := by decide +kernel
theorem dX10_span_31 : decode cX10_span 31 = .ok (.getfield 195, 3) := by decide +kernel
theorem dX10_span_34 : decode cX10_span 34 = .ok (.imul, 1) := by decide +kernel
theorem dX10_span_35 : decode cX10_span 35 = .ok (.iload_n 1, 1) := by decide +kernel
theorem dX10_span_36 : decode cX10_span 36 = .ok (.iadd, 1) := by decide +kernel
theorem dX10_span_37 : decode cX10_span 37 = .ok (.iconst 1, 1) := by decide +kernel
theorem dX10_span_38 : decode cX10_span 38 = .ok (.iadd, 1) := by decide +kernel
theorem dX10_span_39 : decode cX10_span 39 = .ok (.iload_n 2, 1) := by decide +kernel
theorem dX10_span_40 : decode cX10_span 40 = .ok (.iload_n 3, 1) := by decide +kernel
theorem dX10_span_41 : decode cX10_span 41 = .ok (.if_icmp .ge 7, 3) := by decide +kernel
theorem dX10_span_44 : decode cX10_span 44 = .ok (.iload_n 3, 1) := by decide +kernel
theorem dX10_span_45 : decode cX10_span 45 = .ok (.goto 4, 3) := by decide +kernel
theorem dX10_span_48 : decode cX10_span 48 = .ok (.iload_n 2, 1) := by decide +kernel
theorem dX10_span_49 : decode cX10_span 49 = .ok (.iastore, 1) := by decide +kernel
theorem dX10_span_50 : decode cX10_span 50 = .ok (.return_, 1) := by decide +kernel
theorem dX10_newPage_0 : decode cX10_newPage 0 = .ok (.aload_n 0, 1) := by decide +kernel
theorem dX10_newPage_1 : decode cX10_newPage 1 = .ok (.getfield 37, 3) := by decide +kernel
theorem dX10_newPage_4 : decode cX10_newPage 4 = .ok (.aload_n 0, 1) := by decide +kernel
theorem dX10_newPage_5 : decode cX10_newPage 5 = .ok (.getfield 201, 3) := by decide +kernel
theorem dX10_newPage_8 : decode cX10_newPage 8 = .ok (.iconst 1, 1) := by decide +kernel
theorem dX10_newPage_9 : decode cX10_newPage 9 = .ok (.bastore, 1) := by decide +kernel
theorem dX10_newPage_10 : decode cX10_newPage 10 = .ok (.aload_n 0, 1) := by decide +kernel
theorem dX10_newPage_11 : decode cX10_newPage 11 = .ok (.getfield 41, 3) := by decide +kernel
theorem dX10_newPage_14 : decode cX10_newPage 14 = .ok (.aload_n 0, 1) := by decide +kernel
theorem dX10_newPage_15 : decode cX10_newPage 15 = .ok (.getfield 201, 3) := by decide +kernel
theorem dX10_newPage_18 : decode cX10_newPage 18 = .ok (.ldc 149, 2) := by decide +kernel
theorem dX10_newPage_20 : decode cX10_newPage 20 = .ok (.iastore, 1) := by decide +kernel
theorem dX10_newPage_21 : decode cX10_newPage 21 = .ok (.aload_n 0, 1) := by decide +kernel
theorem dX10_newPage_22 : decode cX10_newPage 22 = .ok (.getfield 44, 3) := by decide +kernel
theorem dX10_newPage_25 : decode cX10_newPage 25 = .ok (.aload_n 0, 1) := by decide +kernel
theorem dX10_newPage_26 : decode cX10_newPage 26 = .ok (.getfield 201, 3) := by decide +kernel
theorem dX10_newPage_29 : decode cX10_newPage 29 = .ok (.iload_n 1, 1) := by decide +kernel
theorem dX10_newPage_30 : decode cX10_newPage 30 = .ok (.iastore, 1) := by decide +kernel
theorem dX10_newPage_31 : decode cX10_newPage 31 = .ok (.aload_n 0, 1) := by decide +kernel
theorem dX10_newPage_32 : decode cX10_newPage 32 = .ok (.getfield 47, 3) := by decide +kernel
theorem dX10_newPage_35 : decode cX10_newPage 35 = .ok (.aload_n 0, 1) := by decide +kernel
theorem dX10_newPage_36 : decode cX10_newPage 36 = .ok (.getfield 201, 3) := by decide +kernel
theorem dX10_newPage_39 : decode cX10_newPage 39 = .ok (.iconst 0, 1) := by decide +kernel
theorem dX10_newPage_40 : decode cX10_newPage 40 = .ok (.iastore, 1) := by decide +kernel
theorem dX10_newPage_41 : decode cX10_newPage 41 = .ok (.aload_n 0, 1) := by decide +kernel
theorem dX10_newPage_42 : decode cX10_newPage 42 = .ok (.dup, 1) := by decide +kernel
theorem dX10_newPage_43 : decode cX10_newPage 43 = .ok (.getfield 201, 3) := by decide +kernel
theorem dX10_newPage_46 : decode cX10_newPage 46 = .ok (.iconst 1, 1) := by decide +kernel
theorem dX10_newPage_47 : decode cX10_newPage 47 = .ok (.iadd, 1) := by decide +kernel
theorem dX10_newPage_48 : decode cX10_newPage 48 = .ok (.putfield 201, 3) := by decide +kernel
theorem dX10_newPage_51 : decode cX10_newPage 51 = .ok (.aload_n 0, 1) := by decide +kernel
theorem dX10_newPage_52 : decode cX10_newPage 52 = .ok (.getfield 201, 3) := by decide +kernel
theorem dX10_newPage_55 : decode cX10_newPage 55 = .ok (.iconst 1, 1) := by decide +kernel
theorem dX10_newPage_56 : decode cX10_newPage 56 = .ok (.isub, 1) := by decide +kernel
theorem dX10_newPage_57 : decode cX10_newPage 57 = .ok (.ireturn, 1) := by decide +kernel
theorem dX10_sizeWith_0 : decode cX10_sizeWith 0 = .ok (.iconst 1, 1) := by decide +kernel
theorem dX10_sizeWith_1 : decode cX10_sizeWith 1 = .ok (.istore_n 3, 1) := by decide +kernel
theorem dX10_sizeWith_2 : decode cX10_sizeWith 2 = .ok (.iconst 0, 1) := by decide +kernel
theorem dX10_sizeWith_3 : decode cX10_sizeWith 3 = .ok (.istore 4, 2) := by decide +kernel
theorem dX10_sizeWith_5 : decode cX10_sizeWith 5 = .ok (.iload 4, 2) := by decide +kernel
theorem dX10_sizeWith_7 : decode cX10_sizeWith 7 = .ok (.bipush 6, 2) := by decide +kernel
theorem dX10_sizeWith_9 : decode cX10_sizeWith 9 = .ok (.if_icmp .ge 161, 3) := by decide +kernel
theorem dX10_sizeWith_12 : decode cX10_sizeWith 12 = .ok (.aload_n 0, 1) := by decide +kernel
theorem dX10_sizeWith_13 : decode cX10_sizeWith 13 = .ok (.getfield 37, 3) := by decide +kernel
theorem dX10_sizeWith_16 : decode cX10_sizeWith 16 = .ok (.iload_n 1, 1) := by decide +kernel
theorem dX10_sizeWith_17 : decode cX10_sizeWith 17 = .ok (.baload, 1) := by decide +kernel
theorem dX10_sizeWith_18 : decode cX10_sizeWith 18 = .ok (.ifCond .eq 7, 3) := by decide +kernel
theorem dX10_sizeWith_21 : decode cX10_sizeWith 21 = .ok (.iconst 1, 1) := by decide +kernel
theorem dX10_sizeWith_22 : decode cX10_sizeWith 22 = .ok (.goto 15, 3) := by decide +kernel
theorem dX10_sizeWith_25 : decode cX10_sizeWith 25 = .ok (.aload_n 0, 1) := by decide +kernel
theorem dX10_sizeWith_26 : decode cX10_sizeWith 26 = .ok (.getfield 34, 3) := by decide +kernel
theorem dX10_sizeWith_29 : decode cX10_sizeWith 29 = .ok (.bipush 6, 2) := by decide +kernel
theorem dX10_sizeWith_31 : decode cX10_sizeWith 31 = .ok (.iload_n 1, 1) := by decide +kernel
theorem dX10_sizeWith_32 : decode cX10_sizeWith 32 = .ok (.imul, 1) := by decide +kernel
theorem dX10_sizeWith_33 : decode cX10_sizeWith 33 = .ok (.iload 4, 2) := by decide +kernel
theorem dX10_sizeWith_35 : decode cX10_sizeWith 35 = .ok (.iadd, 1) := by decide +kernel
theorem dX10_sizeWith_36 : decode cX10_sizeWith 36 = .ok (.iaload, 1) := by decide +kernel
theorem dX10_sizeWith_37 : decode cX10_sizeWith 37 = .ok (.istore 5, 2) := by decide +kernel
theorem dX10_sizeWith_39 : decode cX10_sizeWith 39 = .ok (.aload_n 0, 1) := by decide +kernel
theorem dX10_sizeWith_40 : decode cX10_sizeWith 40 = .ok (.getfield 37, 3) := by decide +kernel
theorem dX10_sizeWith_43 : decode cX10_sizeWith 43 = .ok (.iload_n 1, 1) := by decide +kernel
theorem dX10_sizeWith_44 : decode cX10_sizeWith 44 = .ok (.baload, 1) := by decide +kernel
theorem dX10_sizeWith_45 : decode cX10_sizeWith 45 = .ok (.ifCond .eq 7, 3) := by decide +kernel
theorem dX10_sizeWith_48 : decode cX10_sizeWith 48 = .ok (.iconst 0, 1) := by decide +kernel
theorem dX10_sizeWith_49 : decode cX10_sizeWith 49 = .ok (.goto 17, 3) := by decide +kernel
theorem dX10_sizeWith_52 : decode cX10_sizeWith 52 = .ok (.aload_n 0, 1) := by decide +kernel
theorem dX10_sizeWith_53 : decode cX10_sizeWith 53 = .ok (.getfield 34, 3) := by decide +kernel
theorem dX10_sizeWith_56 : decode cX10_sizeWith 56 = .ok (.bipush 6, 2) := by decide +kernel
theorem dX10_sizeWith_58 : decode cX10_sizeWith 58 = .ok (.iload_n 1, 1) := by decide +kernel
theorem dX10_sizeWith_59 : decode cX10_sizeWith 59 = .ok (.imul, 1) := by decide +kernel
theorem dX10_sizeWith_60 : decode cX10_sizeWith 60 = .ok (.iload 4, 2) := by decide +kernel
theorem dX10_sizeWith_62 : decode cX10_sizeWith 62 = .ok (.iadd, 1) := by decide +kernel
theorem dX10_sizeWith_63 : decode cX10_sizeWith 63 = .ok (.iconst 1, 1) := by decide +kernel
theorem dX10_sizeWith_64 : decode cX10_sizeWith 64 = .ok (.iadd, 1) := by decide +kernel
theorem dX10_sizeWith_65 : decode cX10_sizeWith 65 = .ok (.iaload, 1) := by decide +kernel
theorem dX10_sizeWith_66 : decode cX10_sizeWith 66 = .ok (.istore 6, 2) := by decide +kernel
theorem dX10_sizeWith_68 : decode cX10_sizeWith 68 = .ok (.iload_n 2, 1) := by decide +kernel
theorem dX10_sizeWith_69 : decode cX10_sizeWith 69 = .ok (.ldc 149, 2) := by decide +kernel
theorem dX10_sizeWith_71 : decode cX10_sizeWith 71 = .ok (.if_icmp .eq 83, 3) := by decide +kernel
theorem dX10_sizeWith_74 : decode cX10_sizeWith 74 = .ok (.aload_n 0, 1) := by decide +kernel
theorem dX10_sizeWith_75 : decode cX10_sizeWith 75 = .ok (.getfield 31, 3) := by decide +kernel
theorem dX10_sizeWith_78 : decode cX10_sizeWith 78 = .ok (.bipush 6, 2) := by decide +kernel
theorem dX10_sizeWith_80 : decode cX10_sizeWith 80 = .ok (.iload_n 2, 1) := by decide +kernel
theorem dX10_sizeWith_81 : decode cX10_sizeWith 81 = .ok (.imul, 1) := by decide +kernel
theorem dX10_sizeWith_82 : decode cX10_sizeWith 82 = .ok (.iload 4, 2) := by decide +kernel
theorem dX10_sizeWith_84 : decode cX10_sizeWith 84 = .ok (.iadd, 1) := by decide +kernel
theorem dX10_sizeWith_85 : decode cX10_sizeWith 85 = .ok (.iaload, 1) := by decide +kernel
theorem dX10_sizeWith_86 : decode cX10_sizeWith 86 = .ok (.istore 7, 2) := by decide +kernel
theorem dX10_sizeWith_88 : decode cX10_sizeWith 88 = .ok (.aload_n 0, 1) := by decide +kernel
theorem dX10_sizeWith_89 : decode cX10_sizeWith 89 = .ok (.getfield 31, 3) := by decide +kernel
theorem dX10_sizeWith_92 : decode cX10_sizeWith 92 = .ok (.bipush 6, 2) := by decide +kernel
theorem dX10_sizeWith_94 : decode cX10_sizeWith 94 = .ok (.iload_n 2, 1) := by decide +kernel
theorem dX10_sizeWith_95 : decode cX10_sizeWith 95 = .ok (.imul, 1) := by decide +kernel
theorem dX10_sizeWith_96 : decode cX10_sizeWith 96 = .ok (.iload 4, 2) := by decide +kernel
theorem dX10_sizeWith_98 : decode cX10_sizeWith 98 = .ok (.iadd, 1) := by decide +kernel
theorem dX10_sizeWith_99 : decode cX10_sizeWith 99 = .ok (.iconst 1, 1) := by decide +kernel
theorem dX10_sizeWith_100 : decode cX10_sizeWith 100 = .ok (.iadd, 1) := by decide +kernel
theorem dX10_sizeWith_101 : decode cX10_sizeWith 101 = .ok (.iaload, 1) := by decide +kernel
theorem dX10_sizeWith_102 : decode cX10_sizeWith 102 = .ok (.istore 8, 2) := by decide +kernel
theorem dX10_sizeWith_104 : decode cX10_sizeWith 104 = .ok (.aload_n 0, 1) := by decide +kernel
theorem dX10_sizeWith_105 : decode cX10_sizeWith 105 = .ok (.getfield 37, 3) := by decide +kernel
theorem dX10_sizeWith_108 : decode cX10_sizeWith 108 = .ok (.iload_n 1, 1) := by decide +kernel
theorem dX10_sizeWith_109 : decode cX10_sizeWith 109 = .ok (.baload, 1) := by decide +kernel
theorem dX10_sizeWith_110 : decode cX10_sizeWith 110 = .ok (.ifCond .ne 10, 3) := by decide +kernel
theorem dX10_sizeWith_113 : decode cX10_sizeWith 113 = .ok (.iload 7, 2) := by decide +kernel
theorem dX10_sizeWith_115 : decode cX10_sizeWith 115 = .ok (.iload 5, 2) := by decide +kernel
theorem dX10_sizeWith_117 : decode cX10_sizeWith 117 = .ok (.if_icmp .ge 8, 3) := by decide +kernel
theorem dX10_sizeWith_120 : decode cX10_sizeWith 120 = .ok (.iload 7, 2) := by decide +kernel
theorem dX10_sizeWith_122 : decode cX10_sizeWith 122 = .ok (.goto 5, 3) := by decide +kernel
theorem dX10_sizeWith_125 : decode cX10_sizeWith 125 = .ok (.iload 5, 2) := by decide +kernel
theorem dX10_sizeWith_127 : decode cX10_sizeWith 127 = .ok (.istore 5, 2) := by decide +kernel
theorem dX10_sizeWith_129 : decode cX10_sizeWith 129 = .ok (.aload_n 0, 1) := by decide +kernel
theorem dX10_sizeWith_130 : decode cX10_sizeWith 130 = .ok (.getfield 37, 3) := by decide +kernel
theorem dX10_sizeWith_133 : decode cX10_sizeWith 133 = .ok (.iload_n 1, 1) := by decide +kernel
theorem dX10_sizeWith_134 : decode cX10_sizeWith 134 = .ok (.baload, 1) := by decide +kernel
theorem dX10_sizeWith_135 : decode cX10_sizeWith 135 = .ok (.ifCond .ne 10, 3) := by decide +kernel
theorem dX10_sizeWith_138 : decode cX10_sizeWith 138 = .ok (.iload 8, 2) := by decide +kernel
theorem dX10_sizeWith_140 : decode cX10_sizeWith 140 = .ok (.iload 6, 2) := by decide +kernel
theorem dX10_sizeWith_142 : decode cX10_sizeWith 142 = .ok (.if_icmp .le 8, 3) := by decide +kernel
theorem dX10_sizeWith_145 : decode cX10_sizeWith 145 = .ok (.iload 8, 2) := by decide +kernel
theorem dX10_sizeWith_147 : decode cX10_sizeWith 147 = .ok (.goto 5, 3) := by decide +kernel
theorem dX10_sizeWith_150 : decode cX10_sizeWith 150 = .ok (.iload 6, 2) := by decide +kernel
theorem dX10_sizeWith_152 : decode cX10_sizeWith 152 = .ok (.istore 6, 2) := by decide +kernel
theorem dX10_sizeWith_154 : decode cX10_sizeWith 154 = .ok (.iload_n 3, 1) := by decide +kernel
theorem dX10_sizeWith_155 : decode cX10_sizeWith 155 = .ok (.iload 6, 2) := by decide +kernel
theorem dX10_sizeWith_157 : decode cX10_sizeWith 157 = .ok (.iload 5, 2) := by decide +kernel
theorem dX10_sizeWith_159 : decode cX10_sizeWith 159 = .ok (.isub, 1) := by decide +kernel
theorem dX10_sizeWith_160 : decode cX10_sizeWith 160 = .ok (.iconst 1, 1) := by decide +kernel
theorem dX10_sizeWith_161 : decode cX10_sizeWith 161 = .ok (.iadd, 1) := by decide +kernel
theorem dX10_sizeWith_162 : decode cX10_sizeWith 162 = .ok (.imul, 1) := by decide +kernel
theorem dX10_sizeWith_163 : decode cX10_sizeWith 163 = .ok (.istore_n 3, 1) := by decide +kernel
theorem dX10_sizeWith_164 : decode cX10_sizeWith 164 = .ok (.iinc 4 2, 3) := by decide +kernel
theorem dX10_sizeWith_167 : decode cX10_sizeWith 167 = .ok (.goto (-162), 3) := by decide +kernel
theorem dX10_sizeWith_170 : decode cX10_sizeWith 170 = .ok (.iload_n 3, 1) := by decide +kernel
theorem dX10_sizeWith_171 : decode cX10_sizeWith 171 = .ok (.ireturn, 1) := by decide +kernel
theorem dX10_join_0 : decode cX10_join 0 = .ok (.iconst 0, 1) := by decide +kernel
theorem dX10_join_1 : decode cX10_join 1 = .ok (.istore_n 3, 1) := by decide +kernel
theorem dX10_join_2 : decode cX10_join 2 = .ok (.iload_n 3, 1) := by decide +kernel
theorem dX10_join_3 : decode cX10_join 3 = .ok (.bipush 6, 2) := by decide +kernel
theorem dX10_join_5 : decode cX10_join 5 = .ok (.if_icmp .ge 147, 3) := by decide +kernel
theorem dX10_join_8 : decode cX10_join 8 = .ok (.aload_n 0, 1) := by decide +kernel
theorem dX10_join_9 : decode cX10_join 9 = .ok (.getfield 31, 3) := by decide +kernel
theorem dX10_join_12 : decode cX10_join 12 = .ok (.bipush 6, 2) := by decide +kernel
theorem dX10_join_14 : decode cX10_join 14 = .ok (.iload_n 2, 1) := by decide +kernel
theorem dX10_join_15 : decode cX10_join 15 = .ok (.imul, 1) := by decide +kernel
theorem dX10_join_16 : decode cX10_join 16 = .ok (.iload_n 3, 1) := by decide +kernel
theorem dX10_join_17 : decode cX10_join 17 = .ok (.iadd, 1) := by decide +kernel
theorem dX10_join_18 : decode cX10_join 18 = .ok (.iaload, 1) := by decide +kernel
theorem dX10_join_19 : decode cX10_join 19 = .ok (.istore 4, 2) := by decide +kernel
theorem dX10_join_21 : decode cX10_join 21 = .ok (.aload_n 0, 1) := by decide +kernel
theorem dX10_join_22 : decode cX10_join 22 = .ok (.getfield 31, 3) := by decide +kernel
theorem dX10_join_25 : decode cX10_join 25 = .ok (.bipush 6, 2) := by decide +kernel
theorem dX10_join_27 : decode cX10_join 27 = .ok (.iload_n 2, 1) := by decide +kernel
theorem dX10_join_28 : decode cX10_join 28 = .ok (.imul, 1) := by decide +kernel
theorem dX10_join_29 : decode cX10_join 29 = .ok (.iload_n 3, 1) := by decide +kernel
theorem dX10_join_30 : decode cX10_join 30 = .ok (.iadd, 1) := by decide +kernel
theorem dX10_join_31 : decode cX10_join 31 = .ok (.iconst 1, 1) := by decide +kernel
theorem dX10_join_32 : decode cX10_join 32 = .ok (.iadd, 1) := by decide +kernel
theorem dX10_join_33 : decode cX10_join 33 = .ok (.iaload, 1) := by decide +kernel
theorem dX10_join_34 : decode cX10_join 34 = .ok (.istore 5, 2) := by decide +kernel
theorem dX10_join_36 : decode cX10_join 36 = .ok (.aload_n 0, 1) := by decide +kernel
theorem dX10_join_37 : decode cX10_join 37 = .ok (.getfield 34, 3) := by decide +kernel
theorem dX10_join_40 : decode cX10_join 40 = .ok (.bipush 6, 2) := by decide +kernel
theorem dX10_join_42 : decode cX10_join 42 = .ok (.iload_n 1, 1) := by decide +kernel
theorem dX10_join_43 : decode cX10_join 43 = .ok (.imul, 1) := by decide +kernel
theorem dX10_join_44 : decode cX10_join 44 = .ok (.iload_n 3, 1) := by decide +kernel
theorem dX10_join_45 : decode cX10_join 45 = .ok (.iadd, 1) := by decide +kernel
theorem dX10_join_46 : decode cX10_join 46 = .ok (.aload_n 0, 1) := by decide +kernel
theorem dX10_join_47 : decode cX10_join 47 = .ok (.getfield 37, 3) := by decide +kernel
theorem dX10_join_50 : decode cX10_join 50 = .ok (.iload_n 1, 1) := by decide +kernel
theorem dX10_join_51 : decode cX10_join 51 = .ok (.baload, 1) := by decide +kernel
theorem dX10_join_52 : decode cX10_join 52 = .ok (.ifCond .ne 19, 3) := by decide +kernel
theorem dX10_join_55 : decode cX10_join 55 = .ok (.iload 4, 2) := by decide +kernel
theorem dX10_join_57 : decode cX10_join 57 = .ok (.aload_n 0, 1) := by decide +kernel
theorem dX10_join_58 : decode cX10_join 58 = .ok (.getfield 34, 3) := by decide +kernel
theorem dX10_join_61 : decode cX10_join 61 = .ok (.bipush 6, 2) := by decide +kernel
theorem dX10_join_63 : decode cX10_join 63 = .ok (.iload_n 1, 1) := by decide +kernel
theorem dX10_join_64 : decode cX10_join 64 = .ok (.imul, 1) := by decide +kernel
theorem dX10_join_65 : decode cX10_join 65 = .ok (.iload_n 3, 1) := by decide +kernel
theorem dX10_join_66 : decode cX10_join 66 = .ok (.iadd, 1) := by decide +kernel
theorem dX10_join_67 : decode cX10_join 67 = .ok (.iaload, 1) := by decide +kernel
theorem dX10_join_68 : decode cX10_join 68 = .ok (.if_icmp .ge 8, 3) := by decide +kernel
theorem dX10_join_71 : decode cX10_join 71 = .ok (.iload 4, 2) := by decide +kernel
theorem dX10_join_73 : decode cX10_join 73 = .ok (.goto 14, 3) := by decide +kernel
theorem dX10_join_76 : decode cX10_join 76 = .ok (.aload_n 0, 1) := by decide +kernel
theorem dX10_join_77 : decode cX10_join 77 = .ok (.getfield 34, 3) := by decide +kernel
theorem dX10_join_80 : decode cX10_join 80 = .ok (.bipush 6, 2) := by decide +kernel
theorem dX10_join_82 : decode cX10_join 82 = .ok (.iload_n 1, 1) := by decide +kernel
theorem dX10_join_83 : decode cX10_join 83 = .ok (.imul, 1) := by decide +kernel
theorem dX10_join_84 : decode cX10_join 84 = .ok (.iload_n 3, 1) := by decide +kernel
theorem dX10_join_85 : decode cX10_join 85 = .ok (.iadd, 1) := by decide +kernel
theorem dX10_join_86 : decode cX10_join 86 = .ok (.iaload, 1) := by decide +kernel
theorem dX10_join_87 : decode cX10_join 87 = .ok (.iastore, 1) := by decide +kernel
theorem dX10_join_88 : decode cX10_join 88 = .ok (.aload_n 0, 1) := by decide +kernel
theorem dX10_join_89 : decode cX10_join 89 = .ok (.getfield 34, 3) := by decide +kernel
theorem dX10_join_92 : decode cX10_join 92 = .ok (.bipush 6, 2) := by decide +kernel
theorem dX10_join_94 : decode cX10_join 94 = .ok (.iload_n 1, 1) := by decide +kernel
theorem dX10_join_95 : decode cX10_join 95 = .ok (.imul, 1) := by decide +kernel
theorem dX10_join_96 : decode cX10_join 96 = .ok (.iload_n 3, 1) := by decide +kernel
theorem dX10_join_97 : decode cX10_join 97 = .ok (.iadd, 1) := by decide +kernel
theorem dX10_join_98 : decode cX10_join 98 = .ok (.iconst 1, 1) := by decide +kernel
theorem dX10_join_99 : decode cX10_join 99 = .ok (.iadd, 1) := by decide +kernel
theorem dX10_join_100 : decode cX10_join 100 = .ok (.aload_n 0, 1) := by decide +kernel
theorem dX10_join_101 : decode cX10_join 101 = .ok (.getfield 37, 3) := by decide +kernel
theorem dX10_join_104 : decode cX10_join 104 = .ok (.iload_n 1, 1) := by decide +kernel
theorem dX10_join_105 : decode cX10_join 105 = .ok (.baload, 1) := by decide +kernel
theorem dX10_join_106 : decode cX10_join 106 = .ok (.ifCond .ne 21, 3) := by decide +kernel
theorem dX10_join_109 : decode cX10_join 109 = .ok (.iload 5, 2) := by decide +kernel
theorem dX10_join_111 : decode cX10_join 111 = .ok (.aload_n 0, 1) := by decide +kernel
theorem dX10_join_112 : decode cX10_join 112 = .ok (.getfield 34, 3) := by decide +kernel
theorem dX10_join_115 : decode cX10_join 115 = .ok (.bipush 6, 2) := by decide +kernel
theorem dX10_join_117 : decode cX10_join 117 = .ok (.iload_n 1, 1) := by decide +kernel
theorem dX10_join_118 : decode cX10_join 118 = .ok (.imul, 1) := by decide +kernel
theorem dX10_join_119 : decode cX10_join 119 = .ok (.iload_n 3, 1) := by decide +kernel
theorem dX10_join_120 : decode cX10_join 120 = .ok (.iadd, 1) := by decide +kernel
theorem dX10_join_121 : decode cX10_join 121 = .ok (.iconst 1, 1) := by decide +kernel
theorem dX10_join_122 : decode cX10_join 122 = .ok (.iadd, 1) := by decide +kernel
theorem dX10_join_123 : decode cX10_join 123 = .ok (.iaload, 1) := by decide +kernel
theorem dX10_join_124 : decode cX10_join 124 = .ok (.if_icmp .le 8, 3) := by decide +kernel
theorem dX10_join_127 : decode cX10_join 127 = .ok (.iload 5, 2) := by decide +kernel
theorem dX10_join_129 : decode cX10_join 129 = .ok (.goto 16, 3) := by decide +kernel
theorem dX10_join_132 : decode cX10_join 132 = .ok (.aload_n 0, 1) := by decide +kernel
theorem dX10_join_133 : decode cX10_join 133 = .ok (.getfield 34, 3) := by decide +kernel
theorem dX10_join_136 : decode cX10_join 136 = .ok (.bipush 6, 2) := by decide +kernel
theorem dX10_join_138 : decode cX10_join 138 = .ok (.iload_n 1, 1) := by decide +kernel
theorem dX10_join_139 : decode cX10_join 139 = .ok (.imul, 1) := by decide +kernel
theorem dX10_join_140 : decode cX10_join 140 = .ok (.iload_n 3, 1) := by decide +kernel
theorem dX10_join_141 : decode cX10_join 141 = .ok (.iadd, 1) := by decide +kernel
theorem dX10_join_142 : decode cX10_join 142 = .ok (.iconst 1, 1) := by decide +kernel
theorem dX10_join_143 : decode cX10_join 143 = .ok (.iadd, 1) := by decide +kernel
theorem dX10_join_144 : decode cX10_join 144 = .ok (.iaload, 1) := by decide +kernel
theorem dX10_join_145 : decode cX10_join 145 = .ok (.iastore, 1) := by decide +kernel
theorem dX10_join_146 : decode cX10_join 146 = .ok (.iinc 3 2, 3) := by decide +kernel
theorem dX10_join_149 : decode cX10_join 149 = .ok (.goto (-147), 3) := by decide +kernel
theorem dX10_join_152 : decode cX10_join 152 = .ok (.aload_n 0, 1) := by decide +kernel
theorem dX10_join_153 : decode cX10_join 153 = .ok (.getfield 37, 3) := by decide +kernel
theorem dX10_join_156 : decode cX10_join 156 = .ok (.iload_n 1, 1) := by decide +kernel
theorem dX10_join_157 : decode cX10_join 157 = .ok (.iconst 0, 1) := by decide +kernel
theorem dX10_join_158 : decode cX10_join 158 = .ok (.bastore, 1) := by decide +kernel
theorem dX10_join_159 : decode cX10_join 159 = .ok (.return_, 1) := by decide +kernel
theorem dX10_growth_0 : decode cX10_growth 0 = .ok (.aload_n 0, 1) := by decide +kernel
theorem dX10_growth_1 : decode cX10_growth 1 = .ok (.iload_n 1, 1) := by decide +kernel
theorem dX10_growth_2 : decode cX10_growth 2 = .ok (.iload_n 2, 1) := by decide +kernel
theorem dX10_growth_3 : decode cX10_growth 3 = .ok (.invokevirtual 204, 3) := by decide +kernel
theorem dX10_growth_6 : decode cX10_growth 6 = .ok (.aload_n 0, 1) := by decide +kernel
theorem dX10_growth_7 : decode cX10_growth 7 = .ok (.iload_n 1, 1) := by decide +kernel
theorem dX10_growth_8 : decode cX10_growth 8 = .ok (.ldc 149, 2) := by decide +kernel
theorem dX10_growth_10 : decode cX10_growth 10 = .ok (.invokevirtual 204, 3) := by decide +kernel
theorem dX10_growth_13 : decode cX10_growth 13 = .ok (.isub, 1) := by decide +kernel
theorem dX10_growth_14 : decode cX10_growth 14 = .ok (.ireturn, 1) := by decide +kernel
theorem dX10_put_0 : decode cX10_put 0 = .ok (.aload_n 0, 1) := by decide +kernel
theorem dX10_put_1 : decode cX10_put 1 = .ok (.getfield 50, 3) := by decide +kernel
theorem dX10_put_4 : decode cX10_put 4 = .ok (.iconst 5, 1) := by decide +kernel
theorem dX10_put_5 : decode cX10_put 5 = .ok (.iload_n 1, 1) := by decide +kernel
theorem dX10_put_6 : decode cX10_put 6 = .ok (.imul, 1) := by decide +kernel
theorem dX10_put_7 : decode cX10_put 7 = .ok (.aload_n 0, 1) := by decide +kernel
theorem dX10_put_8 : decode cX10_put 8 = .ok (.getfield 47, 3) := by decide +kernel
theorem dX10_put_11 : decode cX10_put 11 = .ok (.iload_n 1, 1) := by decide +kernel
theorem dX10_put_12 : decode cX10_put 12 = .ok (.iaload, 1) := by decide +kernel
theorem dX10_put_13 : decode cX10_put 13 = .ok (.iadd, 1) := by decide +kernel
theorem dX10_put_14 : decode cX10_put 14 = .ok (.iload_n 2, 1) := by decide +kernel
theorem dX10_put_15 : decode cX10_put 15 = .ok (.iastore, 1) := by decide +kernel
theorem dX10_put_16 : decode cX10_put 16 = .ok (.aload_n 0, 1) := by decide +kernel
theorem dX10_put_17 : decode cX10_put 17 = .ok (.getfield 47, 3) := by decide +kernel
theorem dX10_put_20 : decode cX10_put 20 = .ok (.iload_n 1, 1) := by decide +kernel
theorem dX10_put_21 : decode cX10_put 21 = .ok (.dup2, 1) := by decide +kernel
theorem dX10_put_22 : decode cX10_put 22 = .ok (.iaload, 1) := by decide +kernel
theorem dX10_put_23 : decode cX10_put 23 = .ok (.iconst 1, 1) := by decide +kernel
theorem dX10_put_24 : decode cX10_put 24 = .ok (.iadd, 1) := by decide +kernel
theorem dX10_put_25 : decode cX10_put 25 = .ok (.iastore, 1) := by decide +kernel
theorem dX10_put_26 : decode cX10_put 26 = .ok (.aload_n 0, 1) := by decide +kernel
theorem dX10_put_27 : decode cX10_put 27 = .ok (.iload_n 1, 1) := by decide +kernel
theorem dX10_put_28 : decode cX10_put 28 = .ok (.iload_n 2, 1) := by decide +kernel
theorem dX10_put_29 : decode cX10_put 29 = .ok (.invokevirtual 208, 3) := by decide +kernel
theorem dX10_put_32 : decode cX10_put 32 = .ok (.return_, 1) := by decide +kernel
theorem dX10_addLeg_0 : decode cX10_addLeg 0 = .ok (.iconst 0, 1) := by decide +kernel
theorem dX10_addLeg_1 : decode cX10_addLeg 1 = .ok (.istore_n 2, 1) := by decide +kernel
theorem dX10_addLeg_2 : decode cX10_addLeg 2 = .ok (.aload_n 0, 1) := by decide +kernel
theorem dX10_addLeg_3 : decode cX10_addLeg 3 = .ok (.getfield 41, 3) := by decide +kernel
theorem dX10_addLeg_6 : decode cX10_addLeg 6 = .ok (.iload_n 2, 1) := by decide +kernel
theorem dX10_addLeg_7 : decode cX10_addLeg 7 = .ok (.iaload, 1) := by decide +kernel
theorem dX10_addLeg_8 : decode cX10_addLeg 8 = .ok (.ldc 149, 2) := by decide +kernel
theorem dX10_addLeg_10 : decode cX10_addLeg 10 = .ok (.if_icmp .eq 57, 3) := by decide +kernel
theorem dX10_addLeg_13 : decode cX10_addLeg 13 = .ok (.aload_n 0, 1) := by decide +kernel
theorem dX10_addLeg_14 : decode cX10_addLeg 14 = .ok (.iload_n 2, 1) := by decide +kernel
theorem dX10_addLeg_15 : decode cX10_addLeg 15 = .ok (.iload_n 1, 1) := by decide +kernel
theorem dX10_addLeg_16 : decode cX10_addLeg 16 = .ok (.invokevirtual 208, 3) := by decide +kernel
theorem dX10_addLeg_19 : decode cX10_addLeg 19 = .ok (.aload_n 0, 1) := by decide +kernel
theorem dX10_addLeg_20 : decode cX10_addLeg 20 = .ok (.aload_n 0, 1) := by decide +kernel
theorem dX10_addLeg_21 : decode cX10_addLeg 21 = .ok (.getfield 41, 3) := by decide +kernel
theorem dX10_addLeg_24 : decode cX10_addLeg 24 = .ok (.iload_n 2, 1) := by decide +kernel
theorem dX10_addLeg_25 : decode cX10_addLeg 25 = .ok (.iaload, 1) := by decide +kernel
theorem dX10_addLeg_26 : decode cX10_addLeg 26 = .ok (.iconst 1, 1) := by decide +kernel
theorem dX10_addLeg_27 : decode cX10_addLeg 27 = .ok (.iadd, 1) := by decide +kernel
theorem dX10_addLeg_28 : decode cX10_addLeg 28 = .ok (.iload_n 1, 1) := by decide +kernel
theorem dX10_addLeg_29 : decode cX10_addLeg 29 = .ok (.invokevirtual 211, 3) := by decide +kernel
theorem dX10_addLeg_32 : decode cX10_addLeg 32 = .ok (.aload_n 0, 1) := by decide +kernel
theorem dX10_addLeg_33 : decode cX10_addLeg 33 = .ok (.aload_n 0, 1) := by decide +kernel
theorem dX10_addLeg_34 : decode cX10_addLeg 34 = .ok (.getfield 41, 3) := by decide +kernel
theorem dX10_addLeg_37 : decode cX10_addLeg 37 = .ok (.iload_n 2, 1) := by decide +kernel
theorem dX10_addLeg_38 : decode cX10_addLeg 38 = .ok (.iaload, 1) := by decide +kernel
theorem dX10_addLeg_39 : decode cX10_addLeg 39 = .ok (.iload_n 1, 1) := by decide +kernel
theorem dX10_addLeg_40 : decode cX10_addLeg 40 = .ok (.invokevirtual 211, 3) := by decide +kernel
theorem dX10_addLeg_43 : decode cX10_addLeg 43 = .ok (.if_icmp .ge 14, 3) := by decide +kernel
theorem dX10_addLeg_46 : decode cX10_addLeg 46 = .ok (.aload_n 0, 1) := by decide +kernel
theorem dX10_addLeg_47 : decode cX10_addLeg 47 = .ok (.getfield 41, 3) := by decide +kernel
theorem dX10_addLeg_50 : decode cX10_addLeg 50 = .ok (.iload_n 2, 1) := by decide +kernel
theorem dX10_addLeg_51 : decode cX10_addLeg 51 = .ok (.iaload, 1) := by decide +kernel
theorem dX10_addLeg_52 : decode cX10_addLeg 52 = .ok (.iconst 1, 1) := by decide +kernel
theorem dX10_addLeg_53 : decode cX10_addLeg 53 = .ok (.iadd, 1) := by decide +kernel
theorem dX10_addLeg_54 : decode cX10_addLeg 54 = .ok (.goto 9, 3) := by decide +kernel
theorem dX10_addLeg_57 : decode cX10_addLeg 57 = .ok (.aload_n 0, 1) := by decide +kernel
theorem dX10_addLeg_58 : decode cX10_addLeg 58 = .ok (.getfield 41, 3) := by decide +kernel
theorem dX10_addLeg_61 : decode cX10_addLeg 61 = .ok (.iload_n 2, 1) := by decide +kernel
theorem dX10_addLeg_62 : decode cX10_addLeg 62 = .ok (.iaload, 1) := by decide +kernel
theorem dX10_addLeg_63 : decode cX10_addLeg 63 = .ok (.istore_n 2, 1) := by decide +kernel
theorem dX10_addLeg_64 : decode cX10_addLeg 64 = .ok (.goto (-62), 3) := by decide +kernel
theorem dX10_addLeg_67 : decode cX10_addLeg 67 = .ok (.aload_n 0, 1) := by decide +kernel
theorem dX10_addLeg_68 : decode cX10_addLeg 68 = .ok (.iload_n 2, 1) := by decide +kernel
theorem dX10_addLeg_69 : decode cX10_addLeg 69 = .ok (.iload_n 1, 1) := by decide +kernel
theorem dX10_addLeg_70 : decode cX10_addLeg 70 = .ok (.invokevirtual 214, 3) := by decide +kernel
theorem dX10_addLeg_73 : decode cX10_addLeg 73 = .ok (.aload_n 0, 1) := by decide +kernel
theorem dX10_addLeg_74 : decode cX10_addLeg 74 = .ok (.getfield 47, 3) := by decide +kernel
theorem dX10_addLeg_77 : decode cX10_addLeg 77 = .ok (.iload_n 2, 1) := by decide +kernel
theorem dX10_addLeg_78 : decode cX10_addLeg 78 = .ok (.iaload, 1) := by decide +kernel
theorem dX10_addLeg_79 : decode cX10_addLeg 79 = .ok (.iconst 5, 1) := by decide +kernel
theorem dX10_addLeg_80 : decode cX10_addLeg 80 = .ok (.if_icmp .ne 8, 3) := by decide +kernel
theorem dX10_addLeg_83 : decode cX10_addLeg 83 = .ok (.aload_n 0, 1) := by decide +kernel
theorem dX10_addLeg_84 : decode cX10_addLeg 84 = .ok (.iload_n 2, 1) := by decide +kernel
theorem dX10_addLeg_85 : decode cX10_addLeg 85 = .ok (.invokevirtual 217, 3) := by decide +kernel
theorem dX10_addLeg_88 : decode cX10_addLeg 88 = .ok (.return_, 1) := by decide +kernel
theorem dX10_sort_0 : decode cX10_sort 0 = .ok (.iconst 0, 1) := by decide +kernel
theorem dX10_sort_1 : decode cX10_sort 1 = .ok (.istore_n 3, 1) := by decide +kernel
theorem dX10_sort_2 : decode cX10_sort 2 = .ok (.iload_n 3, 1) := by decide +kernel
theorem dX10_sort_3 : decode cX10_sort 3 = .ok (.iconst 5, 1) := by decide +kernel
theorem dX10_sort_4 : decode cX10_sort 4 = .ok (.if_icmp .ge 79, 3) := by decide +kernel
theorem dX10_sort_7 : decode cX10_sort 7 = .ok (.aload_n 0, 1) := by decide +kernel
theorem dX10_sort_8 : decode cX10_sort 8 = .ok (.getfield 50, 3) := by decide +kernel
theorem dX10_sort_11 : decode cX10_sort 11 = .ok (.iconst 5, 1) := by decide +kernel
theorem dX10_sort_12 : decode cX10_sort 12 = .ok (.iload_n 1, 1) := by decide +kernel
theorem dX10_sort_13 : decode cX10_sort 13 = .ok (.imul, 1) := by decide +kernel
theorem dX10_sort_14 : decode cX10_sort 14 = .ok (.iload_n 3, 1) := by decide +kernel
theorem dX10_sort_15 : decode cX10_sort 15 = .ok (.iadd, 1) := by decide +kernel
theorem dX10_sort_16 : decode cX10_sort 16 = .ok (.iaload, 1) := by decide +kernel
theorem dX10_sort_17 : decode cX10_sort 17 = .ok (.istore 4, 2) := by decide +kernel
theorem dX10_sort_19 : decode cX10_sort 19 = .ok (.iload_n 3, 1) := by decide +kernel
theorem dX10_sort_20 : decode cX10_sort 20 = .ok (.istore 5, 2) := by decide +kernel
theorem dX10_sort_22 : decode cX10_sort 22 = .ok (.iload 5, 2) := by decide +kernel
theorem dX10_sort_24 : decode cX10_sort 24 = .ok (.ifCond .le 44, 3) := by decide +kernel
theorem dX10_sort_27 : decode cX10_sort 27 = .ok (.aload_n 0, 1) := by decide +kernel
theorem dX10_sort_28 : decode cX10_sort 28 = .ok (.aload_n 0, 1) := by decide +kernel
theorem dX10_sort_29 : decode cX10_sort 29 = .ok (.getfield 53, 3) := by decide +kernel
theorem dX10_sort_32 : decode cX10_sort 32 = .ok (.iload 5, 2) := by decide +kernel
theorem dX10_sort_34 : decode cX10_sort 34 = .ok (.iconst 1, 1) := by decide +kernel
theorem dX10_sort_35 : decode cX10_sort 35 = .ok (.isub, 1) := by decide +kernel
theorem dX10_sort_36 : decode cX10_sort 36 = .ok (.iaload, 1) := by decide +kernel
theorem dX10_sort_37 : decode cX10_sort 37 = .ok (.iload 4, 2) := by decide +kernel
theorem dX10_sort_39 : decode cX10_sort 39 = .ok (.iload_n 2, 1) := by decide +kernel
theorem dX10_sort_40 : decode cX10_sort 40 = .ok (.invokevirtual 221, 3) := by decide +kernel
theorem dX10_sort_43 : decode cX10_sort 43 = .ok (.ifCond .eq 25, 3) := by decide +kernel
theorem dX10_sort_46 : decode cX10_sort 46 = .ok (.aload_n 0, 1) := by decide +kernel
theorem dX10_sort_47 : decode cX10_sort 47 = .ok (.getfield 53, 3) := by decide +kernel
theorem dX10_sort_50 : decode cX10_sort 50 = .ok (.iload 5, 2) := by decide +kernel
theorem dX10_sort_52 : decode cX10_sort 52 = .ok (.aload_n 0, 1) := by decide +kernel
theorem dX10_sort_53 : decode cX10_sort 53 = .ok (.getfield 53, 3) := by decide +kernel
theorem dX10_sort_56 : decode cX10_sort 56 = .ok (.iload 5, 2) := by decide +kernel
theorem dX10_sort_58 : decode cX10_sort 58 = .ok (.iconst 1, 1) := by decide +kernel
theorem dX10_sort_59 : decode cX10_sort 59 = .ok (.isub, 1) := by decide +kernel
theorem dX10_sort_60 : decode cX10_sort 60 = .ok (.iaload, 1) := by decide +kernel
theorem dX10_sort_61 : decode cX10_sort 61 = .ok (.iastore, 1) := by decide +kernel
theorem dX10_sort_62 : decode cX10_sort 62 = .ok (.iinc 5 (-1), 3) := by decide +kernel
theorem dX10_sort_65 : decode cX10_sort 65 = .ok (.goto (-43), 3) := by decide +kernel
theorem dX10_sort_68 : decode cX10_sort 68 = .ok (.aload_n 0, 1) := by decide +kernel
theorem dX10_sort_69 : decode cX10_sort 69 = .ok (.getfield 53, 3) := by decide +kernel
theorem dX10_sort_72 : decode cX10_sort 72 = .ok (.iload 5, 2) := by decide +kernel
theorem dX10_sort_74 : decode cX10_sort 74 = .ok (.iload 4, 2) := by decide +kernel
theorem dX10_sort_76 : decode cX10_sort 76 = .ok (.iastore, 1) := by decide +kernel
theorem dX10_sort_77 : decode cX10_sort 77 = .ok (.iinc 3 1, 3) := by decide +kernel
theorem dX10_sort_80 : decode cX10_sort 80 = .ok (.goto (-78), 3) := by decide +kernel
theorem dX10_sort_83 : decode cX10_sort 83 = .ok (.return_, 1) := by decide +kernel
theorem dX10_isBehind_0 : decode cX10_isBehind 0 = .ok (.aload_n 0, 1) := by decide +kernel
theorem dX10_isBehind_1 : decode cX10_isBehind 1 = .ok (.getfield 31, 3) := by decide +kernel
theorem dX10_isBehind_4 : decode cX10_isBehind 4 = .ok (.bipush 6, 2) := by decide +kernel
theorem dX10_isBehind_6 : decode cX10_isBehind 6 = .ok (.iload_n 1, 1) := by decide +kernel
theorem dX10_isBehind_7 : decode cX10_isBehind 7 = .ok (.imul, 1) := by decide +kernel
theorem dX10_isBehind_8 : decode cX10_isBehind 8 = .ok (.iconst 2, 1) := by decide +kernel
theorem dX10_isBehind_9 : decode cX10_isBehind 9 = .ok (.iload_n 3, 1) := by decide +kernel
theorem dX10_isBehind_10 : decode cX10_isBehind 10 = .ok (.imul, 1) := by decide +kernel
theorem dX10_isBehind_11 : decode cX10_isBehind 11 = .ok (.iadd, 1) := by decide +kernel
theorem dX10_isBehind_12 : decode cX10_isBehind 12 = .ok (.iaload, 1) := by decide +kernel
theorem dX10_isBehind_13 : decode cX10_isBehind 13 = .ok (.aload_n 0, 1) := by decide +kernel
theorem dX10_isBehind_14 : decode cX10_isBehind 14 = .ok (.getfield 31, 3) := by decide +kernel
theorem dX10_isBehind_17 : decode cX10_isBehind 17 = .ok (.bipush 6, 2) := by decide +kernel
theorem dX10_isBehind_19 : decode cX10_isBehind 19 = .ok (.iload_n 1, 1) := by decide +kernel
theorem dX10_isBehind_20 : decode cX10_isBehind 20 = .ok (.imul, 1) := by decide +kernel
theorem dX10_isBehind_21 : decode cX10_isBehind 21 = .ok (.iconst 2, 1) := by decide +kernel
theorem dX10_isBehind_22 : decode cX10_isBehind 22 = .ok (.iload_n 3, 1) := by decide +kernel
theorem dX10_isBehind_23 : decode cX10_isBehind 23 = .ok (.imul, 1) := by decide +kernel
theorem dX10_isBehind_24 : decode cX10_isBehind 24 = .ok (.iadd, 1) := by decide +kernel
theorem dX10_isBehind_25 : decode cX10_isBehind 25 = .ok (.iconst 1, 1) := by decide +kernel
theorem dX10_isBehind_26 : decode cX10_isBehind 26 = .ok (.iadd, 1) := by decide +kernel
theorem dX10_isBehind_27 : decode cX10_isBehind 27 = .ok (.iaload, 1) := by decide +kernel
theorem dX10_isBehind_28 : decode cX10_isBehind 28 = .ok (.iadd, 1) := by decide +kernel
theorem dX10_isBehind_29 : decode cX10_isBehind 29 = .ok (.istore 4, 2) := by decide +kernel
theorem dX10_isBehind_31 : decode cX10_isBehind 31 = .ok (.aload_n 0, 1) := by decide +kernel
theorem dX10_isBehind_32 : decode cX10_isBehind 32 = .ok (.getfield 31, 3) := by decide +kernel
theorem dX10_isBehind_35 : decode cX10_isBehind 35 = .ok (.bipush 6, 2) := by decide +kernel
theorem dX10_isBehind_37 : decode cX10_isBehind 37 = .ok (.iload_n 2, 1) := by decide +kernel
theorem dX10_isBehind_38 : decode cX10_isBehind 38 = .ok (.imul, 1) := by decide +kernel
theorem dX10_isBehind_39 : decode cX10_isBehind 39 = .ok (.iconst 2, 1) := by decide +kernel
theorem dX10_isBehind_40 : decode cX10_isBehind 40 = .ok (.iload_n 3, 1) := by decide +kernel
theorem dX10_isBehind_41 : decode cX10_isBehind 41 = .ok (.imul, 1) := by decide +kernel
theorem dX10_isBehind_42 : decode cX10_isBehind 42 = .ok (.iadd, 1) := by decide +kernel
theorem dX10_isBehind_43 : decode cX10_isBehind 43 = .ok (.iaload, 1) := by decide +kernel
theorem dX10_isBehind_44 : decode cX10_isBehind 44 = .ok (.aload_n 0, 1) := by decide +kernel
theorem dX10_isBehind_45 : decode cX10_isBehind 45 = .ok (.getfield 31, 3) := by decide +kernel
theorem dX10_isBehind_48 : decode cX10_isBehind 48 = .ok (.bipush 6, 2) := by decide +kernel
theorem dX10_isBehind_50 : decode cX10_isBehind 50 = .ok (.iload_n 2, 1) := by decide +kernel
theorem dX10_isBehind_51 : decode cX10_isBehind 51 = .ok (.imul, 1) := by decide +kernel
theorem dX10_isBehind_52 : decode cX10_isBehind 52 = .ok (.iconst 2, 1) := by decide +kernel
theorem dX10_isBehind_53 : decode cX10_isBehind 53 = .ok (.iload_n 3, 1) := by decide +kernel
theorem dX10_isBehind_54 : decode cX10_isBehind 54 = .ok (.imul, 1) := by decide +kernel
theorem dX10_isBehind_55 : decode cX10_isBehind 55 = .ok (.iadd, 1) := by decide +kernel
theorem dX10_isBehind_56 : decode cX10_isBehind 56 = .ok (.iconst 1, 1) := by decide +kernel
theorem dX10_isBehind_57 : decode cX10_isBehind 57 = .ok (.iadd, 1) := by decide +kernel
theorem dX10_isBehind_58 : decode cX10_isBehind 58 = .ok (.iaload, 1) := by decide +kernel
theorem dX10_isBehind_59 : decode cX10_isBehind 59 = .ok (.iadd, 1) := by decide +kernel
theorem dX10_isBehind_60 : decode cX10_isBehind 60 = .ok (.istore 5, 2) := by decide +kernel
theorem dX10_isBehind_62 : decode cX10_isBehind 62 = .ok (.iload 4, 2) := by decide +kernel
theorem dX10_isBehind_64 : decode cX10_isBehind 64 = .ok (.iload 5, 2) := by decide +kernel
theorem dX10_isBehind_66 : decode cX10_isBehind 66 = .ok (.if_icmp .gt 15, 3) := by decide +kernel
theorem dX10_isBehind_69 : decode cX10_isBehind 69 = .ok (.iload 4, 2) := by decide +kernel
theorem dX10_isBehind_71 : decode cX10_isBehind 71 = .ok (.iload 5, 2) := by decide +kernel
theorem dX10_isBehind_73 : decode cX10_isBehind 73 = .ok (.if_icmp .ne 12, 3) := by decide +kernel
theorem dX10_isBehind_76 : decode cX10_isBehind 76 = .ok (.iload_n 1, 1) := by decide +kernel
theorem dX10_isBehind_77 : decode cX10_isBehind 77 = .ok (.iload_n 2, 1) := by decide +kernel
theorem dX10_isBehind_78 : decode cX10_isBehind 78 = .ok (.if_icmp .le 7, 3) := by decide +kernel
theorem dX10_isBehind_81 : decode cX10_isBehind 81 = .ok (.iconst 1, 1) := by decide +kernel
theorem dX10_isBehind_82 : decode cX10_isBehind 82 = .ok (.goto 4, 3) := by decide +kernel
theorem dX10_isBehind_85 : decode cX10_isBehind 85 = .ok (.iconst 0, 1) := by decide +kernel
theorem dX10_isBehind_86 : decode cX10_isBehind 86 = .ok (.ireturn, 1) := by decide +kernel
theorem dX10_sizeOf_0 : decode cX10_sizeOf 0 = .ok (.iconst 1, 1) := by decide +kernel
theorem dX10_sizeOf_1 : decode cX10_sizeOf 1 = .ok (.istore_n 3, 1) := by decide +kernel
theorem dX10_sizeOf_2 : decode cX10_sizeOf 2 = .ok (.iconst 0, 1) := by decide +kernel
theorem dX10_sizeOf_3 : decode cX10_sizeOf 3 = .ok (.istore 4, 2) := by decide +kernel
theorem dX10_sizeOf_5 : decode cX10_sizeOf 5 = .ok (.iload 4, 2) := by decide +kernel
theorem dX10_sizeOf_7 : decode cX10_sizeOf 7 = .ok (.bipush 6, 2) := by decide +kernel
theorem dX10_sizeOf_9 : decode cX10_sizeOf 9 = .ok (.if_icmp .ge 142, 3) := by decide +kernel
theorem dX10_sizeOf_12 : decode cX10_sizeOf 12 = .ok (.ldc 224, 2) := by decide +kernel
theorem dX10_sizeOf_14 : decode cX10_sizeOf 14 = .ok (.istore 5, 2) := by decide +kernel
theorem dX10_sizeOf_16 : decode cX10_sizeOf 16 = .ok (.ldc 225, 2) := by decide +kernel
theorem dX10_sizeOf_18 : decode cX10_sizeOf 18 = .ok (.istore 6, 2) := by decide +kernel
theorem dX10_sizeOf_20 : decode cX10_sizeOf 20 = .ok (.iload_n 1, 1) := by decide +kernel
theorem dX10_sizeOf_21 : decode cX10_sizeOf 21 = .ok (.istore 7, 2) := by decide +kernel
theorem dX10_sizeOf_23 : decode cX10_sizeOf 23 = .ok (.iload 7, 2) := by decide +kernel
theorem dX10_sizeOf_25 : decode cX10_sizeOf 25 = .ok (.iload_n 2, 1) := by decide +kernel
theorem dX10_sizeOf_26 : decode cX10_sizeOf 26 = .ok (.if_icmp .ge 109, 3) := by decide +kernel
theorem dX10_sizeOf_29 : decode cX10_sizeOf 29 = .ok (.aload_n 0, 1) := by decide +kernel
theorem dX10_sizeOf_30 : decode cX10_sizeOf 30 = .ok (.getfield 31, 3) := by decide +kernel
theorem dX10_sizeOf_33 : decode cX10_sizeOf 33 = .ok (.bipush 6, 2) := by decide +kernel
theorem dX10_sizeOf_35 : decode cX10_sizeOf 35 = .ok (.aload_n 0, 1) := by decide +kernel
theorem dX10_sizeOf_36 : decode cX10_sizeOf 36 = .ok (.getfield 53, 3) := by decide +kernel
theorem dX10_sizeOf_39 : decode cX10_sizeOf 39 = .ok (.iload 7, 2) := by decide +kernel
theorem dX10_sizeOf_41 : decode cX10_sizeOf 41 = .ok (.iaload, 1) := by decide +kernel
theorem dX10_sizeOf_42 : decode cX10_sizeOf 42 = .ok (.imul, 1) := by decide +kernel
theorem dX10_sizeOf_43 : decode cX10_sizeOf 43 = .ok (.iload 4, 2) := by decide +kernel
theorem dX10_sizeOf_45 : decode cX10_sizeOf 45 = .ok (.iadd, 1) := by decide +kernel
theorem dX10_sizeOf_46 : decode cX10_sizeOf 46 = .ok (.iaload, 1) := by decide +kernel
theorem dX10_sizeOf_47 : decode cX10_sizeOf 47 = .ok (.iload 5, 2) := by decide +kernel
theorem dX10_sizeOf_49 : decode cX10_sizeOf 49 = .ok (.if_icmp .ge 24, 3) := by decide +kernel
theorem dX10_sizeOf_52 : decode cX10_sizeOf 52 = .ok (.aload_n 0, 1) := by decide +kernel
theorem dX10_sizeOf_53 : decode cX10_sizeOf 53 = .ok (.getfield 31, 3) := by decide +kernel
theorem dX10_sizeOf_56 : decode cX10_sizeOf 56 = .ok (.bipush 6, 2) := by decide +kernel
theorem dX10_sizeOf_58 : decode cX10_sizeOf 58 = .ok (.aload_n 0, 1) := by decide +kernel
theorem dX10_sizeOf_59 : decode cX10_sizeOf 59 = .ok (.getfield 53, 3) := by decide +kernel
theorem dX10_sizeOf_62 : decode cX10_sizeOf 62 = .ok (.iload 7, 2) := by decide +kernel
theorem dX10_sizeOf_64 : decode cX10_sizeOf 64 = .ok (.iaload, 1) := by decide +kernel
theorem dX10_sizeOf_65 : decode cX10_sizeOf 65 = .ok (.imul, 1) := by decide +kernel
theorem dX10_sizeOf_66 : decode cX10_sizeOf 66 = .ok (.iload 4, 2) := by decide +kernel
theorem dX10_sizeOf_68 : decode cX10_sizeOf 68 = .ok (.iadd, 1) := by decide +kernel
theorem dX10_sizeOf_69 : decode cX10_sizeOf 69 = .ok (.iaload, 1) := by decide +kernel
theorem dX10_sizeOf_70 : decode cX10_sizeOf 70 = .ok (.goto 5, 3) := by decide +kernel
theorem dX10_sizeOf_73 : decode cX10_sizeOf 73 = .ok (.iload 5, 2) := by decide +kernel
theorem dX10_sizeOf_75 : decode cX10_sizeOf 75 = .ok (.istore 5, 2) := by decide +kernel
theorem dX10_sizeOf_77 : decode cX10_sizeOf 77 = .ok (.aload_n 0, 1) := by decide +kernel
theorem dX10_sizeOf_78 : decode cX10_sizeOf 78 = .ok (.getfield 31, 3) := by decide +kernel
theorem dX10_sizeOf_81 : decode cX10_sizeOf 81 = .ok (.bipush 6, 2) := by decide +kernel
theorem dX10_sizeOf_83 : decode cX10_sizeOf 83 = .ok (.aload_n 0, 1) := by decide +kernel
theorem dX10_sizeOf_84 : decode cX10_sizeOf 84 = .ok (.getfield 53, 3) := by decide +kernel
theorem dX10_sizeOf_87 : decode cX10_sizeOf 87 = .ok (.iload 7, 2) := by decide +kernel
theorem dX10_sizeOf_89 : decode cX10_sizeOf 89 = .ok (.iaload, 1) := by decide +kernel
theorem dX10_sizeOf_90 : decode cX10_sizeOf 90 = .ok (.imul, 1) := by decide +kernel
theorem dX10_sizeOf_91 : decode cX10_sizeOf 91 = .ok (.iload 4, 2) := by decide +kernel
theorem dX10_sizeOf_93 : decode cX10_sizeOf 93 = .ok (.iadd, 1) := by decide +kernel
theorem dX10_sizeOf_94 : decode cX10_sizeOf 94 = .ok (.iconst 1, 1) := by decide +kernel
theorem dX10_sizeOf_95 : decode cX10_sizeOf 95 = .ok (.iadd, 1) := by decide +kernel
theorem dX10_sizeOf_96 : decode cX10_sizeOf 96 = .ok (.iaload, 1) := by decide +kernel
theorem dX10_sizeOf_97 : decode cX10_sizeOf 97 = .ok (.iload 6, 2) := by decide +kernel
theorem dX10_sizeOf_99 : decode cX10_sizeOf 99 = .ok (.if_icmp .le 26, 3) := by decide +kernel
theorem dX10_sizeOf_102 : decode cX10_sizeOf 102 = .ok (.aload_n 0, 1) := by decide +kernel
theorem dX10_sizeOf_103 : decode cX10_sizeOf 103 = .ok (.getfield 31, 3) := by decide +kernel
theorem dX10_sizeOf_106 : decode cX10_sizeOf 106 = .ok (.bipush 6, 2) := by decide +kernel
theorem dX10_sizeOf_108 : decode cX10_sizeOf 108 = .ok (.aload_n 0, 1) := by decide +kernel
theorem dX10_sizeOf_109 : decode cX10_sizeOf 109 = .ok (.getfield 53, 3) := by decide +kernel
theorem dX10_sizeOf_112 : decode cX10_sizeOf 112 = .ok (.iload 7, 2) := by decide +kernel
theorem dX10_sizeOf_114 : decode cX10_sizeOf 114 = .ok (.iaload, 1) := by decide +kernel
theorem dX10_sizeOf_115 : decode cX10_sizeOf 115 = .ok (.imul, 1) := by decide +kernel
theorem dX10_sizeOf_116 : decode cX10_sizeOf 116 = .ok (.iload 4, 2) := by decide +kernel
theorem dX10_sizeOf_118 : decode cX10_sizeOf 118 = .ok (.iadd, 1) := by decide +kernel
theorem dX10_sizeOf_119 : decode cX10_sizeOf 119 = .ok (.iconst 1, 1) := by decide +kernel
theorem dX10_sizeOf_120 : decode cX10_sizeOf 120 = .ok (.iadd, 1) := by decide +kernel
theorem dX10_sizeOf_121 : decode cX10_sizeOf 121 = .ok (.iaload, 1) := by decide +kernel
theorem dX10_sizeOf_122 : decode cX10_sizeOf 122 = .ok (.goto 5, 3) := by decide +kernel
theorem dX10_sizeOf_125 : decode cX10_sizeOf 125 = .ok (.iload 6, 2) := by decide +kernel
theorem dX10_sizeOf_127 : decode cX10_sizeOf 127 = .ok (.istore 6, 2) := by decide +kernel
theorem dX10_sizeOf_129 : decode cX10_sizeOf 129 = .ok (.iinc 7 1, 3) := by decide +kernel
theorem dX10_sizeOf_132 : decode cX10_sizeOf 132 = .ok (.goto (-109), 3) := by decide +kernel
theorem dX10_sizeOf_135 : decode cX10_sizeOf 135 = .ok (.iload_n 3, 1) := by decide +kernel
theorem dX10_sizeOf_136 : decode cX10_sizeOf 136 = .ok (.iload 6, 2) := by decide +kernel
theorem dX10_sizeOf_138 : decode cX10_sizeOf 138 = .ok (.iload 5, 2) := by decide +kernel
theorem dX10_sizeOf_140 : decode cX10_sizeOf 140 = .ok (.isub, 1) := by decide +kernel
theorem dX10_sizeOf_141 : decode cX10_sizeOf 141 = .ok (.iconst 1, 1) := by decide +kernel
theorem dX10_sizeOf_142 : decode cX10_sizeOf 142 = .ok (.iadd, 1) := by decide +kernel
theorem dX10_sizeOf_143 : decode cX10_sizeOf 143 = .ok (.imul, 1) := by decide +kernel
theorem dX10_sizeOf_144 : decode cX10_sizeOf 144 = .ok (.istore_n 3, 1) := by decide +kernel
theorem dX10_sizeOf_145 : decode cX10_sizeOf 145 = .ok (.iinc 4 2, 3) := by decide +kernel
theorem dX10_sizeOf_148 : decode cX10_sizeOf 148 = .ok (.goto (-143), 3) := by decide +kernel
theorem dX10_sizeOf_151 : decode cX10_sizeOf 151 = .ok (.iload_n 3, 1) := by decide +kernel
theorem dX10_sizeOf_152 : decode cX10_sizeOf 152 = .ok (.ireturn, 1) := by decide +kernel
theorem dX10_cut_0 : decode cX10_cut 0 = .ok (.ldc 226, 2) := by decide +kernel
theorem dX10_cut_2 : decode cX10_cut 2 = .ok (.istore_n 2, 1) := by decide +kernel
theorem dX10_cut_3 : decode cX10_cut 3 = .ok (.iconst 2, 1) := by decide +kernel
theorem dX10_cut_4 : decode cX10_cut 4 = .ok (.istore_n 3, 1) := by decide +kernel
theorem dX10_cut_5 : decode cX10_cut 5 = .ok (.iconst 0, 1) := by decide +kernel
theorem dX10_cut_6 : decode cX10_cut 6 = .ok (.istore 4, 2) := by decide +kernel
theorem dX10_cut_8 : decode cX10_cut 8 = .ok (.iload 4, 2) := by decide +kernel
theorem dX10_cut_10 : decode cX10_cut 10 = .ok (.bipush 6, 2) := by decide +kernel
theorem dX10_cut_12 : decode cX10_cut 12 = .ok (.if_icmp .ge 84, 3) := by decide +kernel
theorem dX10_cut_15 : decode cX10_cut 15 = .ok (.aload_n 0, 1) := by decide +kernel
theorem dX10_cut_16 : decode cX10_cut 16 = .ok (.iload_n 1, 1) := by decide +kernel
theorem dX10_cut_17 : decode cX10_cut 17 = .ok (.iload 4, 2) := by decide +kernel
theorem dX10_cut_19 : decode cX10_cut 19 = .ok (.iconst 2, 1) := by decide +kernel
theorem dX10_cut_20 : decode cX10_cut 20 = .ok (.idiv, 1) := by decide +kernel
theorem dX10_cut_21 : decode cX10_cut 21 = .ok (.invokevirtual 227, 3) := by decide +kernel
theorem dX10_cut_24 : decode cX10_cut 24 = .ok (.iconst 2, 1) := by decide +kernel
theorem dX10_cut_25 : decode cX10_cut 25 = .ok (.iload 4, 2) := by decide +kernel
theorem dX10_cut_27 : decode cX10_cut 27 = .ok (.iconst 2, 1) := by decide +kernel
theorem dX10_cut_28 : decode cX10_cut 28 = .ok (.irem, 1) := by decide +kernel
theorem dX10_cut_29 : decode cX10_cut 29 = .ok (.iadd, 1) := by decide +kernel
theorem dX10_cut_30 : decode cX10_cut 30 = .ok (.istore 5, 2) := by decide +kernel
theorem dX10_cut_32 : decode cX10_cut 32 = .ok (.aload_n 0, 1) := by decide +kernel
theorem dX10_cut_33 : decode cX10_cut 33 = .ok (.iconst 0, 1) := by decide +kernel
theorem dX10_cut_34 : decode cX10_cut 34 = .ok (.iload 5, 2) := by decide +kernel
theorem dX10_cut_36 : decode cX10_cut 36 = .ok (.invokevirtual 230, 3) := by decide +kernel
theorem dX10_cut_39 : decode cX10_cut 39 = .ok (.aload_n 0, 1) := by decide +kernel
theorem dX10_cut_40 : decode cX10_cut 40 = .ok (.iload 5, 2) := by decide +kernel
theorem dX10_cut_42 : decode cX10_cut 42 = .ok (.iconst 5, 1) := by decide +kernel
theorem dX10_cut_43 : decode cX10_cut 43 = .ok (.invokevirtual 230, 3) := by decide +kernel
theorem dX10_cut_46 : decode cX10_cut 46 = .ok (.iadd, 1) := by decide +kernel
theorem dX10_cut_47 : decode cX10_cut 47 = .ok (.istore 6, 2) := by decide +kernel
theorem dX10_cut_49 : decode cX10_cut 49 = .ok (.iload 6, 2) := by decide +kernel
theorem dX10_cut_51 : decode cX10_cut 51 = .ok (.iload_n 2, 1) := by decide +kernel
theorem dX10_cut_52 : decode cX10_cut 52 = .ok (.if_icmp .ge 38, 3) := by decide +kernel
theorem dX10_cut_55 : decode cX10_cut 55 = .ok (.iload 6, 2) := by decide +kernel
theorem dX10_cut_57 : decode cX10_cut 57 = .ok (.istore_n 2, 1) := by decide +kernel
theorem dX10_cut_58 : decode cX10_cut 58 = .ok (.iload 5, 2) := by decide +kernel
theorem dX10_cut_60 : decode cX10_cut 60 = .ok (.istore_n 3, 1) := by decide +kernel
theorem dX10_cut_61 : decode cX10_cut 61 = .ok (.iconst 0, 1) := by decide +kernel
theorem dX10_cut_62 : decode cX10_cut 62 = .ok (.istore 7, 2) := by decide +kernel
theorem dX10_cut_64 : decode cX10_cut 64 = .ok (.iload 7, 2) := by decide +kernel
theorem dX10_cut_66 : decode cX10_cut 66 = .ok (.iconst 5, 1) := by decide +kernel
theorem dX10_cut_67 : decode cX10_cut 67 = .ok (.if_icmp .ge 23, 3) := by decide +kernel
theorem dX10_cut_70 : decode cX10_cut 70 = .ok (.aload_n 0, 1) := by decide +kernel
theorem dX10_cut_71 : decode cX10_cut 71 = .ok (.getfield 56, 3) := by decide +kernel
theorem dX10_cut_74 : decode cX10_cut 74 = .ok (.iload 7, 2) := by decide +kernel
theorem dX10_cut_76 : decode cX10_cut 76 = .ok (.aload_n 0, 1) := by decide +kernel
theorem dX10_cut_77 : decode cX10_cut 77 = .ok (.getfield 53, 3) := by decide +kernel
theorem dX10_cut_80 : decode cX10_cut 80 = .ok (.iload 7, 2) := by decide +kernel
theorem dX10_cut_82 : decode cX10_cut 82 = .ok (.iaload, 1) := by decide +kernel
theorem dX10_cut_83 : decode cX10_cut 83 = .ok (.iastore, 1) := by decide +kernel
theorem dX10_cut_84 : decode cX10_cut 84 = .ok (.iinc 7 1, 3) := by decide +kernel
theorem dX10_cut_87 : decode cX10_cut 87 = .ok (.goto (-23), 3) := by decide +kernel
theorem dX10_cut_90 : decode cX10_cut 90 = .ok (.iinc 4 1, 3) := by decide +kernel
theorem dX10_cut_93 : decode cX10_cut 93 = .ok (.goto (-85), 3) := by decide +kernel
theorem dX10_cut_96 : decode cX10_cut 96 = .ok (.aload_n 0, 1) := by decide +kernel
theorem dX10_cut_97 : decode cX10_cut 97 = .ok (.aload_n 0, 1) := by decide +kernel
theorem dX10_cut_98 : decode cX10_cut 98 = .ok (.getfield 44, 3) := by decide +kernel
theorem dX10_cut_101 : decode cX10_cut 101 = .ok (.iload_n 1, 1) := by decide +kernel
theorem dX10_cut_102 : decode cX10_cut 102 = .ok (.iaload, 1) := by decide +kernel
theorem dX10_cut_103 : decode cX10_cut 103 = .ok (.iconst 1, 1) := by decide +kernel
theorem dX10_cut_104 : decode cX10_cut 104 = .ok (.iadd, 1) := by decide +kernel
theorem dX10_cut_105 : decode cX10_cut 105 = .ok (.invokevirtual 233, 3) := by decide +kernel
theorem dX10_cut_108 : decode cX10_cut 108 = .ok (.istore 4, 2) := by decide +kernel
theorem dX10_cut_110 : decode cX10_cut 110 = .ok (.aload_n 0, 1) := by decide +kernel
theorem dX10_cut_111 : decode cX10_cut 111 = .ok (.aload_n 0, 1) := by decide +kernel
theorem dX10_cut_112 : decode cX10_cut 112 = .ok (.getfield 44, 3) := by decide +kernel
theorem dX10_cut_115 : decode cX10_cut 115 = .ok (.iload_n 1, 1) := by decide +kernel
theorem dX10_cut_116 : decode cX10_cut 116 = .ok (.iaload, 1) := by decide +kernel
theorem dX10_cut_117 : decode cX10_cut 117 = .ok (.iconst 1, 1) := by decide +kernel
theorem dX10_cut_118 : decode cX10_cut 118 = .ok (.iadd, 1) := by decide +kernel
theorem dX10_cut_119 : decode cX10_cut 119 = .ok (.invokevirtual 233, 3) := by decide +kernel
theorem dX10_cut_122 : decode cX10_cut 122 = .ok (.istore 5, 2) := by decide +kernel
theorem dX10_cut_124 : decode cX10_cut 124 = .ok (.iconst 0, 1) := by decide +kernel
theorem dX10_cut_125 : decode cX10_cut 125 = .ok (.istore 6, 2) := by decide +kernel
theorem dX10_cut_127 : decode cX10_cut 127 = .ok (.iload 6, 2) := by decide +kernel
theorem dX10_cut_129 : decode cX10_cut 129 = .ok (.iconst 5, 1) := by decide +kernel
theorem dX10_cut_130 : decode cX10_cut 130 = .ok (.if_icmp .ge 33, 3) := by decide +kernel
theorem dX10_cut_133 : decode cX10_cut 133 = .ok (.aload_n 0, 1) := by decide +kernel
theorem dX10_cut_134 : decode cX10_cut 134 = .ok (.iload 6, 2) := by decide +kernel
theorem dX10_cut_136 : decode cX10_cut 136 = .ok (.iload_n 3, 1) := by decide +kernel
theorem dX10_cut_137 : decode cX10_cut 137 = .ok (.if_icmp .ge 8, 3) := by decide +kernel
theorem dX10_cut_140 : decode cX10_cut 140 = .ok (.iload 4, 2) := by decide +kernel
theorem dX10_cut_142 : decode cX10_cut 142 = .ok (.goto 5, 3) := by decide +kernel
theorem dX10_cut_145 : decode cX10_cut 145 = .ok (.iload 5, 2) := by decide +kernel
theorem dX10_cut_147 : decode cX10_cut 147 = .ok (.aload_n 0, 1) := by decide +kernel
theorem dX10_cut_148 : decode cX10_cut 148 = .ok (.getfield 56, 3) := by decide +kernel
theorem dX10_cut_151 : decode cX10_cut 151 = .ok (.iload 6, 2) := by decide +kernel
theorem dX10_cut_153 : decode cX10_cut 153 = .ok (.iaload, 1) := by decide +kernel
theorem dX10_cut_154 : decode cX10_cut 154 = .ok (.invokevirtual 214, 3) := by decide +kernel
theorem dX10_cut_157 : decode cX10_cut 157 = .ok (.iinc 6 1, 3) := by decide +kernel
theorem dX10_cut_160 : decode cX10_cut 160 = .ok (.goto (-33), 3) := by decide +kernel
theorem dX10_cut_163 : decode cX10_cut 163 = .ok (.aload_n 0, 1) := by decide +kernel
theorem dX10_cut_164 : decode cX10_cut 164 = .ok (.getfield 41, 3) := by decide +kernel
theorem dX10_cut_167 : decode cX10_cut 167 = .ok (.iload_n 1, 1) := by decide +kernel
theorem dX10_cut_168 : decode cX10_cut 168 = .ok (.iload 4, 2) := by decide +kernel
theorem dX10_cut_170 : decode cX10_cut 170 = .ok (.iastore, 1) := by decide +kernel
theorem dX10_cut_171 : decode cX10_cut 171 = .ok (.aload_n 0, 1) := by decide +kernel
theorem dX10_cut_172 : decode cX10_cut 172 = .ok (.getfield 47, 3) := by decide +kernel
theorem dX10_cut_175 : decode cX10_cut 175 = .ok (.iload_n 1, 1) := by decide +kernel
theorem dX10_cut_176 : decode cX10_cut 176 = .ok (.iconst 0, 1) := by decide +kernel
theorem dX10_cut_177 : decode cX10_cut 177 = .ok (.iastore, 1) := by decide +kernel
theorem dX10_cut_178 : decode cX10_cut 178 = .ok (.return_, 1) := by decide +kernel
theorem dX10_layPages_0 : decode cX10_layPages 0 = .ok (.aload_n 0, 1) := by decide +kernel
theorem dX10_layPages_1 : decode cX10_layPages 1 = .ok (.invokevirtual 237, 3) := by decide +kernel
theorem dX10_layPages_4 : decode cX10_layPages 4 = .ok (.aload_n 0, 1) := by decide +kernel
theorem dX10_layPages_5 : decode cX10_layPages 5 = .ok (.iconst 0, 1) := by decide +kernel
theorem dX10_layPages_6 : decode cX10_layPages 6 = .ok (.putfield 201, 3) := by decide +kernel
theorem dX10_layPages_9 : decode cX10_layPages 9 = .ok (.aload_n 0, 1) := by decide +kernel
theorem dX10_layPages_10 : decode cX10_layPages 10 = .ok (.iconst 1, 1) := by decide +kernel
theorem dX10_layPages_11 : decode cX10_layPages 11 = .ok (.invokevirtual 233, 3) := by decide +kernel
theorem dX10_layPages_14 : decode cX10_layPages 14 = .ok (.istore_n 1, 1) := by decide +kernel
theorem dX10_layPages_15 : decode cX10_layPages 15 = .ok (.iconst 0, 1) := by decide +kernel
theorem dX10_layPages_16 : decode cX10_layPages 16 = .ok (.istore_n 2, 1) := by decide +kernel
theorem dX10_layPages_17 : decode cX10_layPages 17 = .ok (.iload_n 2, 1) := by decide +kernel
theorem dX10_layPages_18 : decode cX10_layPages 18 = .ok (.aload_n 0, 1) := by decide +kernel
theorem dX10_layPages_19 : decode cX10_layPages 19 = .ok (.getfield 195, 3) := by decide +kernel
theorem dX10_layPages_22 : decode cX10_layPages 22 = .ok (.if_icmp .ge 14, 3) := by decide +kernel
theorem dX10_layPages_25 : decode cX10_layPages 25 = .ok (.aload_n 0, 1) := by decide +kernel
theorem dX10_layPages_26 : decode cX10_layPages 26 = .ok (.iload_n 2, 1) := by decide +kernel
theorem dX10_layPages_27 : decode cX10_layPages 27 = .ok (.invokevirtual 240, 3) := by decide +kernel
theorem dX10_layPages_30 : decode cX10_layPages 30 = .ok (.iinc 2 1, 3) := by decide +kernel
theorem dX10_layPages_33 : decode cX10_layPages 33 = .ok (.goto (-16), 3) := by decide +kernel
theorem dX10_layPages_36 : decode cX10_layPages 36 = .ok (.return_, 1) := by decide +kernel
theorem dX10_pages_0 : decode cX10_pages 0 = .ok (.iload_n 1, 1) := by decide +kernel
theorem dX10_pages_1 : decode cX10_pages 1 = .ok (.i2l, 1) := by decide +kernel
theorem dX10_pages_2 : decode cX10_pages 2 = .ok (.lconst 0, 1) := by decide +kernel
theorem dX10_pages_3 : decode cX10_pages 3 = .ok (.ldc2_w 243, 3) := by decide +kernel
theorem dX10_pages_6 : decode cX10_pages 6 = .ok (.invokestatic 73, 3) := by decide +kernel
theorem dX10_pages_9 : decode cX10_pages 9 = .ok (.ifCond .ne 6, 3) := by decide +kernel
theorem dX10_pages_12 : decode cX10_pages 12 = .ok (.ldc 89, 2) := by decide +kernel
theorem dX10_pages_14 : decode cX10_pages 14 = .ok (.ireturn, 1) := by decide +kernel
theorem dX10_pages_15 : decode cX10_pages 15 = .ok (.aload_n 0, 1) := by decide +kernel
theorem dX10_pages_16 : decode cX10_pages 16 = .ok (.invokevirtual 245, 3) := by decide +kernel
theorem dX10_pages_19 : decode cX10_pages 19 = .ok (.iconst 0, 1) := by decide +kernel
theorem dX10_pages_20 : decode cX10_pages 20 = .ok (.istore_n 2, 1) := by decide +kernel
theorem dX10_pages_21 : decode cX10_pages 21 = .ok (.iconst 0, 1) := by decide +kernel
theorem dX10_pages_22 : decode cX10_pages 22 = .ok (.istore_n 3, 1) := by decide +kernel
theorem dX10_pages_23 : decode cX10_pages 23 = .ok (.iconst 0, 1) := by decide +kernel
theorem dX10_pages_24 : decode cX10_pages 24 = .ok (.istore 4, 2) := by decide +kernel
theorem dX10_pages_26 : decode cX10_pages 26 = .ok (.iload 4, 2) := by decide +kernel
theorem dX10_pages_28 : decode cX10_pages 28 = .ok (.aload_n 0, 1) := by decide +kernel
theorem dX10_pages_29 : decode cX10_pages 29 = .ok (.getfield 201, 3) := by decide +kernel
theorem dX10_pages_32 : decode cX10_pages 32 = .ok (.if_icmp .ge 52, 3) := by decide +kernel
theorem dX10_pages_35 : decode cX10_pages 35 = .ok (.iload_n 2, 1) := by decide +kernel
theorem dX10_pages_36 : decode cX10_pages 36 = .ok (.aload_n 0, 1) := by decide +kernel
theorem dX10_pages_37 : decode cX10_pages 37 = .ok (.getfield 41, 3) := by decide +kernel
theorem dX10_pages_40 : decode cX10_pages 40 = .ok (.iload 4, 2) := by decide +kernel
theorem dX10_pages_42 : decode cX10_pages 42 = .ok (.iaload, 1) := by decide +kernel
theorem dX10_pages_43 : decode cX10_pages 43 = .ok (.ldc 149, 2) := by decide +kernel
theorem dX10_pages_45 : decode cX10_pages 45 = .ok (.if_icmp .ne 7, 3) := by decide +kernel
theorem dX10_pages_48 : decode cX10_pages 48 = .ok (.iconst 1, 1) := by decide +kernel
theorem dX10_pages_49 : decode cX10_pages 49 = .ok (.goto 4, 3) := by decide +kernel
theorem dX10_pages_52 : decode cX10_pages 52 = .ok (.iconst 0, 1) := by decide +kernel
theorem dX10_pages_53 : decode cX10_pages 53 = .ok (.iadd, 1) := by decide +kernel
theorem dX10_pages_54 : decode cX10_pages 54 = .ok (.istore_n 2, 1) := by decide +kernel
theorem dX10_pages_55 : decode cX10_pages 55 = .ok (.aload_n 0, 1) := by decide +kernel
theorem dX10_pages_56 : decode cX10_pages 56 = .ok (.getfield 44, 3) := by decide +kernel
theorem dX10_pages_59 : decode cX10_pages 59 = .ok (.iload 4, 2) := by decide +kernel
theorem dX10_pages_61 : decode cX10_pages 61 = .ok (.iaload, 1) := by decide +kernel
theorem dX10_pages_62 : decode cX10_pages 62 = .ok (.iload_n 3, 1) := by decide +kernel
theorem dX10_pages_63 : decode cX10_pages 63 = .ok (.if_icmp .le 13, 3) := by decide +kernel
theorem dX10_pages_66 : decode cX10_pages 66 = .ok (.aload_n 0, 1) := by decide +kernel
theorem dX10_pages_67 : decode cX10_pages 67 = .ok (.getfield 44, 3) := by decide +kernel
theorem dX10_pages_70 : decode cX10_pages 70 = .ok (.iload 4, 2) := by decide +kernel
theorem dX10_pages_72 : decode cX10_pages 72 = .ok (.iaload, 1) := by decide +kernel
theorem dX10_pages_73 : decode cX10_pages 73 = .ok (.goto 4, 3) := by decide +kernel
theorem dX10_pages_76 : decode cX10_pages 76 = .ok (.iload_n 3, 1) := by decide +kernel
theorem dX10_pages_77 : decode cX10_pages 77 = .ok (.istore_n 3, 1) := by decide +kernel
theorem dX10_pages_78 : decode cX10_pages 78 = .ok (.iinc 4 1, 3) := by decide +kernel
theorem dX10_pages_81 : decode cX10_pages 81 = .ok (.goto (-55), 3) := by decide +kernel
theorem dX10_pages_84 : decode cX10_pages 84 = .ok (.iload_n 1, 1) := by decide +kernel
theorem dX10_pages_85 : decode cX10_pages 85 = .ok (.ifCond .ne 10, 3) := by decide +kernel
theorem dX10_pages_88 : decode cX10_pages 88 = .ok (.aload_n 0, 1) := by decide +kernel
theorem dX10_pages_89 : decode cX10_pages 89 = .ok (.getfield 195, 3) := by decide +kernel
theorem dX10_pages_92 : decode cX10_pages 92 = .ok (.goto 25, 3) := by decide +kernel
theorem dX10_pages_95 : decode cX10_pages 95 = .ok (.iload_n 1, 1) := by decide +kernel
theorem dX10_pages_96 : decode cX10_pages 96 = .ok (.iconst 1, 1) := by decide +kernel
theorem dX10_pages_97 : decode cX10_pages 97 = .ok (.if_icmp .ne 10, 3) := by decide +kernel
theorem dX10_pages_100 : decode cX10_pages 100 = .ok (.aload_n 0, 1) := by decide +kernel
theorem dX10_pages_101 : decode cX10_pages 101 = .ok (.getfield 201, 3) := by decide +kernel
theorem dX10_pages_104 : decode cX10_pages 104 = .ok (.goto 13, 3) := by decide +kernel
theorem dX10_pages_107 : decode cX10_pages 107 = .ok (.iload_n 1, 1) := by decide +kernel
theorem dX10_pages_108 : decode cX10_pages 108 = .ok (.iconst 2, 1) := by decide +kernel
theorem dX10_pages_109 : decode cX10_pages 109 = .ok (.if_icmp .ne 7, 3) := by decide +kernel
theorem dX10_pages_112 : decode cX10_pages 112 = .ok (.iload_n 2, 1) := by decide +kernel
theorem dX10_pages_113 : decode cX10_pages 113 = .ok (.goto 4, 3) := by decide +kernel
theorem dX10_pages_116 : decode cX10_pages 116 = .ok (.iload_n 3, 1) := by decide +kernel
theorem dX10_pages_117 : decode cX10_pages 117 = .ok (.ireturn, 1) := by decide +kernel
theorem dX10_size_0 : decode cX10_size 0 = .ok (.aload_n 0, 1) := by decide +kernel
theorem dX10_size_1 : decode cX10_size 1 = .ok (.invokevirtual 245, 3) := by decide +kernel
theorem dX10_size_4 : decode cX10_size 4 = .ok (.lconst 0, 1) := by decide +kernel
theorem dX10_size_5 : decode cX10_size 5 = .ok (.lstore_n 1, 1) := by decide +kernel
theorem dX10_size_6 : decode cX10_size 6 = .ok (.iconst 0, 1) := by decide +kernel
theorem dX10_size_7 : decode cX10_size 7 = .ok (.istore_n 3, 1) := by decide +kernel
theorem dX10_size_8 : decode cX10_size 8 = .ok (.iload_n 3, 1) := by decide +kernel
theorem dX10_size_9 : decode cX10_size 9 = .ok (.aload_n 0, 1) := by decide +kernel
theorem dX10_size_10 : decode cX10_size 10 = .ok (.getfield 201, 3) := by decide +kernel
theorem dX10_size_13 : decode cX10_size 13 = .ok (.if_icmp .ge 44, 3) := by decide +kernel
theorem dX10_size_16 : decode cX10_size 16 = .ok (.lload_n 1, 1) := by decide +kernel
theorem dX10_size_17 : decode cX10_size 17 = .ok (.aload_n 0, 1) := by decide +kernel
theorem dX10_size_18 : decode cX10_size 18 = .ok (.getfield 41, 3) := by decide +kernel
theorem dX10_size_21 : decode cX10_size 21 = .ok (.iload_n 3, 1) := by decide +kernel
theorem dX10_size_22 : decode cX10_size 22 = .ok (.iaload, 1) := by decide +kernel
theorem dX10_size_23 : decode cX10_size 23 = .ok (.ldc 149, 2) := by decide +kernel
theorem dX10_size_25 : decode cX10_size 25 = .ok (.if_icmp .ne 23, 3) := by decide +kernel
theorem dX10_size_28 : decode cX10_size 28 = .ok (.aload_n 0, 1) := by decide +kernel
theorem dX10_size_29 : decode cX10_size 29 = .ok (.getfield 37, 3) := by decide +kernel
theorem dX10_size_32 : decode cX10_size 32 = .ok (.iload_n 3, 1) := by decide +kernel
theorem dX10_size_33 : decode cX10_size 33 = .ok (.baload, 1) := by decide +kernel
theorem dX10_size_34 : decode cX10_size 34 = .ok (.ifCond .ne 14, 3) := by decide +kernel
theorem dX10_size_37 : decode cX10_size 37 = .ok (.aload_n 0, 1) := by decide +kernel
theorem dX10_size_38 : decode cX10_size 38 = .ok (.iload_n 3, 1) := by decide +kernel
theorem dX10_size_39 : decode cX10_size 39 = .ok (.ldc 149, 2) := by decide +kernel
theorem dX10_size_41 : decode cX10_size 41 = .ok (.invokevirtual 204, 3) := by decide +kernel
theorem dX10_size_44 : decode cX10_size 44 = .ok (.i2l, 1) := by decide +kernel
theorem dX10_size_45 : decode cX10_size 45 = .ok (.goto 4, 3) := by decide +kernel
theorem dX10_size_48 : decode cX10_size 48 = .ok (.lconst 0, 1) := by decide +kernel
theorem dX10_size_49 : decode cX10_size 49 = .ok (.ladd, 1) := by decide +kernel
theorem dX10_size_50 : decode cX10_size 50 = .ok (.lstore_n 1, 1) := by decide +kernel
theorem dX10_size_51 : decode cX10_size 51 = .ok (.iinc 3 1, 3) := by decide +kernel
theorem dX10_size_54 : decode cX10_size 54 = .ok (.goto (-46), 3) := by decide +kernel
theorem dX10_size_57 : decode cX10_size 57 = .ok (.lload_n 1, 1) := by decide +kernel
theorem dX10_size_58 : decode cX10_size 58 = .ok (.lreturn, 1) := by decide +kernel
theorem dX10_touches_0 : decode cX10_touches 0 = .ok (.iload_n 1, 1) := by decide +kernel
theorem dX10_touches_1 : decode cX10_touches 1 = .ok (.iload 4, 2) := by decide +kernel
theorem dX10_touches_3 : decode cX10_touches 3 = .ok (.if_icmp .gt 12, 3) := by decide +kernel
theorem dX10_touches_6 : decode cX10_touches 6 = .ok (.iload_n 3, 1) := by decide +kernel
theorem dX10_touches_7 : decode cX10_touches 7 = .ok (.iload_n 2, 1) := by decide +kernel
theorem dX10_touches_8 : decode cX10_touches 8 = .ok (.if_icmp .gt 7, 3) := by decide +kernel
theorem dX10_touches_11 : decode cX10_touches 11 = .ok (.iconst 1, 1) := by decide +kernel
theorem dX10_touches_12 : decode cX10_touches 12 = .ok (.goto 4, 3) := by decide +kernel
theorem dX10_touches_15 : decode cX10_touches 15 = .ok (.iconst 0, 1) := by decide +kernel
theorem dX10_touches_16 : decode cX10_touches 16 = .ok (.ireturn, 1) := by decide +kernel
theorem dX10_touchesPage_0 : decode cX10_touchesPage 0 = .ok (.aload_n 0, 1) := by decide +kernel
theorem dX10_touchesPage_1 : decode cX10_touchesPage 1 = .ok (.getfield 37, 3) := by decide +kernel
theorem dX10_touchesPage_4 : decode cX10_touchesPage 4 = .ok (.iload_n 1, 1) := by decide +kernel
theorem dX10_touchesPage_5 : decode cX10_touchesPage 5 = .ok (.baload, 1) := by decide +kernel
theorem dX10_touchesPage_6 : decode cX10_touchesPage 6 = .ok (.ifCond .ne 7, 3) := by decide +kernel
theorem dX10_touchesPage_9 : decode cX10_touchesPage 9 = .ok (.iconst 1, 1) := by decide +kernel
theorem dX10_touchesPage_10 : decode cX10_touchesPage 10 = .ok (.goto 4, 3) := by decide +kernel
theorem dX10_touchesPage_13 : decode cX10_touchesPage 13 = .ok (.iconst 0, 1) := by decide +kernel
theorem dX10_touchesPage_14 : decode cX10_touchesPage 14 = .ok (.istore_n 2, 1) := by decide +kernel
theorem dX10_touchesPage_15 : decode cX10_touchesPage 15 = .ok (.iconst 0, 1) := by decide +kernel
theorem dX10_touchesPage_16 : decode cX10_touchesPage 16 = .ok (.istore_n 3, 1) := by decide +kernel
theorem dX10_touchesPage_17 : decode cX10_touchesPage 17 = .ok (.iload_n 3, 1) := by decide +kernel
theorem dX10_touchesPage_18 : decode cX10_touchesPage 18 = .ok (.bipush 6, 2) := by decide +kernel
theorem dX10_touchesPage_20 : decode cX10_touchesPage 20 = .ok (.if_icmp .ge 64, 3) := by decide +kernel
theorem dX10_touchesPage_23 : decode cX10_touchesPage 23 = .ok (.iload_n 2, 1) := by decide +kernel
theorem dX10_touchesPage_24 : decode cX10_touchesPage 24 = .ok (.ifCond .eq 52, 3) := by decide +kernel
theorem dX10_touchesPage_27 : decode cX10_touchesPage 27 = .ok (.aload_n 0, 1) := by decide +kernel
theorem dX10_touchesPage_28 : decode cX10_touchesPage 28 = .ok (.aload_n 0, 1) := by decide +kernel
theorem dX10_touchesPage_29 : decode cX10_touchesPage 29 = .ok (.getfield 34, 3) := by decide +kernel
theorem dX10_touchesPage_32 : decode cX10_touchesPage 32 = .ok (.bipush 6, 2) := by decide +kernel
theorem dX10_touchesPage_34 : decode cX10_touchesPage 34 = .ok (.iload_n 1, 1) := by decide +kernel
theorem dX10_touchesPage_35 : decode cX10_touchesPage 35 = .ok (.imul, 1) := by decide +kernel
theorem dX10_touchesPage_36 : decode cX10_touchesPage 36 = .ok (.iload_n 3, 1) := by decide +kernel
theorem dX10_touchesPage_37 : decode cX10_touchesPage 37 = .ok (.iadd, 1) := by decide +kernel
theorem dX10_touchesPage_38 : decode cX10_touchesPage 38 = .ok (.iaload, 1) := by decide +kernel
theorem dX10_touchesPage_39 : decode cX10_touchesPage 39 = .ok (.aload_n 0, 1) := by decide +kernel
theorem dX10_touchesPage_40 : decode cX10_touchesPage 40 = .ok (.getfield 34, 3) := by decide +kernel
theorem dX10_touchesPage_43 : decode cX10_touchesPage 43 = .ok (.bipush 6, 2) := by decide +kernel
theorem dX10_touchesPage_45 : decode cX10_touchesPage 45 = .ok (.iload_n 1, 1) := by decide +kernel
theorem dX10_touchesPage_46 : decode cX10_touchesPage 46 = .ok (.imul, 1) := by decide +kernel
theorem dX10_touchesPage_47 : decode cX10_touchesPage 47 = .ok (.iload_n 3, 1) := by decide +kernel
theorem dX10_touchesPage_48 : decode cX10_touchesPage 48 = .ok (.iadd, 1) := by decide +kernel
theorem dX10_touchesPage_49 : decode cX10_touchesPage 49 = .ok (.iconst 1, 1) := by decide +kernel
theorem dX10_touchesPage_50 : decode cX10_touchesPage 50 = .ok (.iadd, 1) := by decide +kernel
theorem dX10_touchesPage_51 : decode cX10_touchesPage 51 = .ok (.iaload, 1) := by decide +kernel
theorem dX10_touchesPage_52 : decode cX10_touchesPage 52 = .ok (.aload_n 0, 1) := by decide +kernel
theorem dX10_touchesPage_53 : decode cX10_touchesPage 53 = .ok (.getfield 59, 3) := by decide +kernel
theorem dX10_touchesPage_56 : decode cX10_touchesPage 56 = .ok (.iload_n 3, 1) := by decide +kernel
theorem dX10_touchesPage_57 : decode cX10_touchesPage 57 = .ok (.iaload, 1) := by decide +kernel
theorem dX10_touchesPage_58 : decode cX10_touchesPage 58 = .ok (.aload_n 0, 1) := by decide +kernel
theorem dX10_touchesPage_59 : decode cX10_touchesPage 59 = .ok (.getfield 59, 3) := by decide +kernel
theorem dX10_touchesPage_62 : decode cX10_touchesPage 62 = .ok (.iload_n 3, 1) := by decide +kernel
theorem dX10_touchesPage_63 : decode cX10_touchesPage 63 = .ok (.iconst 1, 1) := by decide +kernel
theorem dX10_touchesPage_64 : decode cX10_touchesPage 64 = .ok (.iadd, 1) := by decide +kernel
theorem dX10_touchesPage_65 : decode cX10_touchesPage 65 = .ok (.iaload, 1) := by decide +kernel
theorem dX10_touchesPage_66 : decode cX10_touchesPage 66 = .ok (.invokevirtual 248, 3) := by decide +kernel
theorem dX10_touchesPage_69 : decode cX10_touchesPage 69 = .ok (.ifCond .eq 7, 3) := by decide +kernel
theorem dX10_touchesPage_72 : decode cX10_touchesPage 72 = .ok (.iconst 1, 1) := by decide +kernel
theorem dX10_touchesPage_73 : decode cX10_touchesPage 73 = .ok (.goto 4, 3) := by decide +kernel
theorem dX10_touchesPage_76 : decode cX10_touchesPage 76 = .ok (.iconst 0, 1) := by decide +kernel
theorem dX10_touchesPage_77 : decode cX10_touchesPage 77 = .ok (.istore_n 2, 1) := by decide +kernel
theorem dX10_touchesPage_78 : decode cX10_touchesPage 78 = .ok (.iinc 3 2, 3) := by decide +kernel
theorem dX10_touchesPage_81 : decode cX10_touchesPage 81 = .ok (.goto (-64), 3) := by decide +kernel
theorem dX10_touchesPage_84 : decode cX10_touchesPage 84 = .ok (.iload_n 2, 1) := by decide +kernel
theorem dX10_touchesPage_85 : decode cX10_touchesPage 85 = .ok (.ireturn, 1) := by decide +kernel
theorem dX10_touchesLeg_0 : decode cX10_touchesLeg 0 = .ok (.iconst 1, 1) := by decide +kernel
theorem dX10_touchesLeg_1 : decode cX10_touchesLeg 1 = .ok (.istore_n 2, 1) := by decide +kernel
theorem dX10_touchesLeg_2 : decode cX10_touchesLeg 2 = .ok (.iconst 0, 1) := by decide +kernel
theorem dX10_touchesLeg_3 : decode cX10_touchesLeg 3 = .ok (.istore_n 3, 1) := by decide +kernel
theorem dX10_touchesLeg_4 : decode cX10_touchesLeg 4 = .ok (.iload_n 3, 1) := by decide +kernel
theorem dX10_touchesLeg_5 : decode cX10_touchesLeg 5 = .ok (.bipush 6, 2) := by decide +kernel
theorem dX10_touchesLeg_7 : decode cX10_touchesLeg 7 = .ok (.if_icmp .ge 64, 3) := by decide +kernel
theorem dX10_touchesLeg_10 : decode cX10_touchesLeg 10 = .ok (.iload_n 2, 1) := by decide +kernel
theorem dX10_touchesLeg_11 : decode cX10_touchesLeg 11 = .ok (.ifCond .eq 52, 3) := by decide +kernel
theorem dX10_touchesLeg_14 : decode cX10_touchesLeg 14 = .ok (.aload_n 0, 1) := by decide +kernel
theorem dX10_touchesLeg_15 : decode cX10_touchesLeg 15 = .ok (.aload_n 0, 1) := by decide +kernel
theorem dX10_touchesLeg_16 : decode cX10_touchesLeg 16 = .ok (.getfield 31, 3) := by decide +kernel
theorem dX10_touchesLeg_19 : decode cX10_touchesLeg 19 = .ok (.bipush 6, 2) := by decide +kernel
theorem dX10_touchesLeg_21 : decode cX10_touchesLeg 21 = .ok (.iload_n 1, 1) := by decide +kernel
theorem dX10_touchesLeg_22 : decode cX10_touchesLeg 22 = .ok (.imul, 1) := by decide +kernel
theorem dX10_touchesLeg_23 : decode cX10_touchesLeg 23 = .ok (.iload_n 3, 1) := by decide +kernel
theorem dX10_touchesLeg_24 : decode cX10_touchesLeg 24 = .ok (.iadd, 1) := by decide +kernel
theorem dX10_touchesLeg_25 : decode cX10_touchesLeg 25 = .ok (.iaload, 1) := by decide +kernel
theorem dX10_touchesLeg_26 : decode cX10_touchesLeg 26 = .ok (.aload_n 0, 1) := by decide +kernel
theorem dX10_touchesLeg_27 : decode cX10_touchesLeg 27 = .ok (.getfield 31, 3) := by decide +kernel
theorem dX10_touchesLeg_30 : decode cX10_touchesLeg 30 = .ok (.bipush 6, 2) := by decide +kernel
theorem dX10_touchesLeg_32 : decode cX10_touchesLeg 32 = .ok (.iload_n 1, 1) := by decide +kernel
theorem dX10_touchesLeg_33 : decode cX10_touchesLeg 33 = .ok (.imul, 1) := by decide +kernel
theorem dX10_touchesLeg_34 : decode cX10_touchesLeg 34 = .ok (.iload_n 3, 1) := by decide +kernel
theorem dX10_touchesLeg_35 : decode cX10_touchesLeg 35 = .ok (.iadd, 1) := by decide +kernel
theorem dX10_touchesLeg_36 : decode cX10_touchesLeg 36 = .ok (.iconst 1, 1) := by decide +kernel
theorem dX10_touchesLeg_37 : decode cX10_touchesLeg 37 = .ok (.iadd, 1) := by decide +kernel
theorem dX10_touchesLeg_38 : decode cX10_touchesLeg 38 = .ok (.iaload, 1) := by decide +kernel
theorem dX10_touchesLeg_39 : decode cX10_touchesLeg 39 = .ok (.aload_n 0, 1) := by decide +kernel
theorem dX10_touchesLeg_40 : decode cX10_touchesLeg 40 = .ok (.getfield 59, 3) := by decide +kernel
theorem dX10_touchesLeg_43 : decode cX10_touchesLeg 43 = .ok (.iload_n 3, 1) := by decide +kernel
theorem dX10_touchesLeg_44 : decode cX10_touchesLeg 44 = .ok (.iaload, 1) := by decide +kernel
theorem dX10_touchesLeg_45 : decode cX10_touchesLeg 45 = .ok (.aload_n 0, 1) := by decide +kernel
theorem dX10_touchesLeg_46 : decode cX10_touchesLeg 46 = .ok (.getfield 59, 3) := by decide +kernel
theorem dX10_touchesLeg_49 : decode cX10_touchesLeg 49 = .ok (.iload_n 3, 1) := by decide +kernel
theorem dX10_touchesLeg_50 : decode cX10_touchesLeg 50 = .ok (.iconst 1, 1) := by decide +kernel
theorem dX10_touchesLeg_51 : decode cX10_touchesLeg 51 = .ok (.iadd, 1) := by decide +kernel
theorem dX10_touchesLeg_52 : decode cX10_touchesLeg 52 = .ok (.iaload, 1) := by decide +kernel
theorem dX10_touchesLeg_53 : decode cX10_touchesLeg 53 = .ok (.invokevirtual 248, 3) := by decide +kernel
theorem dX10_touchesLeg_56 : decode cX10_touchesLeg 56 = .ok (.ifCond .eq 7, 3) := by decide +kernel
theorem dX10_touchesLeg_59 : decode cX10_touchesLeg 59 = .ok (.iconst 1, 1) := by decide +kernel
theorem dX10_touchesLeg_60 : decode cX10_touchesLeg 60 = .ok (.goto 4, 3) := by decide +kernel
theorem dX10_touchesLeg_63 : decode cX10_touchesLeg 63 = .ok (.iconst 0, 1) := by decide +kernel
theorem dX10_touchesLeg_64 : decode cX10_touchesLeg 64 = .ok (.istore_n 2, 1) := by decide +kernel
theorem dX10_touchesLeg_65 : decode cX10_touchesLeg 65 = .ok (.iinc 3 2, 3) := by decide +kernel
theorem dX10_touchesLeg_68 : decode cX10_touchesLeg 68 = .ok (.goto (-64), 3) := by decide +kernel
theorem dX10_touchesLeg_71 : decode cX10_touchesLeg 71 = .ok (.iload_n 2, 1) := by decide +kernel
theorem dX10_touchesLeg_72 : decode cX10_touchesLeg 72 = .ok (.ireturn, 1) := by decide +kernel
theorem dX10_opens_0 : decode cX10_opens 0 = .ok (.iload_n 1, 1) := by decide +kernel
theorem dX10_opens_1 : decode cX10_opens 1 = .ok (.iload_n 2, 1) := by decide +kernel
theorem dX10_opens_2 : decode cX10_opens 2 = .ok (.invokestatic 142, 3) := by decide +kernel
theorem dX10_opens_5 : decode cX10_opens 5 = .ok (.ifCond .eq 35, 3) := by decide +kernel
theorem dX10_opens_8 : decode cX10_opens 8 = .ok (.iload_n 3, 1) := by decide +kernel
theorem dX10_opens_9 : decode cX10_opens 9 = .ok (.iload 4, 2) := by decide +kernel
theorem dX10_opens_11 : decode cX10_opens 11 = .ok (.invokestatic 142, 3) := by decide +kernel
theorem dX10_opens_14 : decode cX10_opens 14 = .ok (.ifCond .eq 26, 3) := by decide +kernel
theorem dX10_opens_17 : decode cX10_opens 17 = .ok (.iload 5, 2) := by decide +kernel
theorem dX10_opens_19 : decode cX10_opens 19 = .ok (.invokestatic 84, 3) := by decide +kernel
theorem dX10_opens_22 : decode cX10_opens 22 = .ok (.ifCond .eq 18, 3) := by decide +kernel
theorem dX10_opens_25 : decode cX10_opens 25 = .ok (.iload 6, 2) := by decide +kernel
theorem dX10_opens_27 : decode cX10_opens 27 = .ok (.i2l, 1) := by decide +kernel
theorem dX10_opens_28 : decode cX10_opens 28 = .ok (.iload 5, 2) := by decide +kernel
theorem dX10_opens_30 : decode cX10_opens 30 = .ok (.i2l, 1) := by decide +kernel
theorem dX10_opens_31 : decode cX10_opens 31 = .ok (.ldc2_w 77, 3) := by decide +kernel
theorem dX10_opens_34 : decode cX10_opens 34 = .ok (.invokestatic 73, 3) := by decide +kernel
theorem dX10_opens_37 : decode cX10_opens 37 = .ok (.ifCond .ne 6, 3) := by decide +kernel
theorem dX10_opens_40 : decode cX10_opens 40 = .ok (.ldc 89, 2) := by decide +kernel
theorem dX10_opens_42 : decode cX10_opens 42 = .ok (.ireturn, 1) := by decide +kernel
theorem dX10_opens_43 : decode cX10_opens 43 = .ok (.aload_n 0, 1) := by decide +kernel
theorem dX10_opens_44 : decode cX10_opens 44 = .ok (.invokevirtual 245, 3) := by decide +kernel
theorem dX10_opens_47 : decode cX10_opens 47 = .ok (.aload_n 0, 1) := by decide +kernel
theorem dX10_opens_48 : decode cX10_opens 48 = .ok (.getfield 59, 3) := by decide +kernel
theorem dX10_opens_51 : decode cX10_opens 51 = .ok (.iconst 0, 1) := by decide +kernel
theorem dX10_opens_52 : decode cX10_opens 52 = .ok (.iload_n 1, 1) := by decide +kernel
theorem dX10_opens_53 : decode cX10_opens 53 = .ok (.iastore, 1) := by decide +kernel
theorem dX10_opens_54 : decode cX10_opens 54 = .ok (.aload_n 0, 1) := by decide +kernel
theorem dX10_opens_55 : decode cX10_opens 55 = .ok (.getfield 59, 3) := by decide +kernel
theorem dX10_opens_58 : decode cX10_opens 58 = .ok (.iconst 1, 1) := by decide +kernel
theorem dX10_opens_59 : decode cX10_opens 59 = .ok (.iload_n 2, 1) := by decide +kernel
theorem dX10_opens_60 : decode cX10_opens 60 = .ok (.iastore, 1) := by decide +kernel
theorem dX10_opens_61 : decode cX10_opens 61 = .ok (.aload_n 0, 1) := by decide +kernel
theorem dX10_opens_62 : decode cX10_opens 62 = .ok (.getfield 59, 3) := by decide +kernel
theorem dX10_opens_65 : decode cX10_opens 65 = .ok (.iconst 2, 1) := by decide +kernel
theorem dX10_opens_66 : decode cX10_opens 66 = .ok (.iload_n 3, 1) := by decide +kernel
theorem dX10_opens_67 : decode cX10_opens 67 = .ok (.iastore, 1) := by decide +kernel
theorem dX10_opens_68 : decode cX10_opens 68 = .ok (.aload_n 0, 1) := by decide +kernel
theorem dX10_opens_69 : decode cX10_opens 69 = .ok (.getfield 59, 3) := by decide +kernel
theorem dX10_opens_72 : decode cX10_opens 72 = .ok (.iconst 3, 1) := by decide +kernel
theorem dX10_opens_73 : decode cX10_opens 73 = .ok (.iload 4, 2) := by decide +kernel
theorem dX10_opens_75 : decode cX10_opens 75 = .ok (.iastore, 1) := by decide +kernel
theorem dX10_opens_76 : decode cX10_opens 76 = .ok (.aload_n 0, 1) := by decide +kernel
theorem dX10_opens_77 : decode cX10_opens 77 = .ok (.getfield 59, 3) := by decide +kernel
theorem dX10_opens_80 : decode cX10_opens 80 = .ok (.iconst 4, 1) := by decide +kernel
theorem dX10_opens_81 : decode cX10_opens 81 = .ok (.iload 5, 2) := by decide +kernel
theorem dX10_opens_83 : decode cX10_opens 83 = .ok (.iastore, 1) := by decide +kernel
theorem dX10_opens_84 : decode cX10_opens 84 = .ok (.aload_n 0, 1) := by decide +kernel
theorem dX10_opens_85 : decode cX10_opens 85 = .ok (.getfield 59, 3) := by decide +kernel
theorem dX10_opens_88 : decode cX10_opens 88 = .ok (.iconst 5, 1) := by decide +kernel
theorem dX10_opens_89 : decode cX10_opens 89 = .ok (.iload 6, 2) := by decide +kernel
theorem dX10_opens_91 : decode cX10_opens 91 = .ok (.iastore, 1) := by decide +kernel
theorem dX10_opens_92 : decode cX10_opens 92 = .ok (.iconst 0, 1) := by decide +kernel
theorem dX10_opens_93 : decode cX10_opens 93 = .ok (.istore 8, 2) := by decide +kernel
theorem dX10_opens_95 : decode cX10_opens 95 = .ok (.iconst 0, 1) := by decide +kernel
theorem dX10_opens_96 : decode cX10_opens 96 = .ok (.istore 9, 2) := by decide +kernel
theorem dX10_opens_98 : decode cX10_opens 98 = .ok (.iconst 0, 1) := by decide +kernel
theorem dX10_opens_99 : decode cX10_opens 99 = .ok (.istore 10, 2) := by decide +kernel
theorem dX10_opens_101 : decode cX10_opens 101 = .ok (.iload 10, 2) := by decide +kernel
theorem dX10_opens_103 : decode cX10_opens 103 = .ok (.aload_n 0, 1) := by decide +kernel
theorem dX10_opens_104 : decode cX10_opens 104 = .ok (.getfield 201, 3) := by decide +kernel
theorem dX10_opens_107 : decode cX10_opens 107 = .ok (.if_icmp .ge 87, 3) := by decide +kernel
theorem dX10_opens_110 : decode cX10_opens 110 = .ok (.iload 8, 2) := by decide +kernel
theorem dX10_opens_112 : decode cX10_opens 112 = .ok (.aload_n 0, 1) := by decide +kernel
theorem dX10_opens_113 : decode cX10_opens 113 = .ok (.iload 10, 2) := by decide +kernel
theorem dX10_opens_115 : decode cX10_opens 115 = .ok (.invokevirtual 252, 3) := by decide +kernel
theorem dX10_opens_118 : decode cX10_opens 118 = .ok (.ifCond .eq 7, 3) := by decide +kernel
theorem dX10_opens_121 : decode cX10_opens 121 = .ok (.iconst 1, 1) := by decide +kernel
theorem dX10_opens_122 : decode cX10_opens 122 = .ok (.goto 4, 3) := by decide +kernel
theorem dX10_opens_125 : decode cX10_opens 125 = .ok (.iconst 0, 1) := by decide +kernel
theorem dX10_opens_126 : decode cX10_opens 126 = .ok (.iadd, 1) := by decide +kernel
theorem dX10_opens_127 : decode cX10_opens 127 = .ok (.istore 8, 2) := by decide +kernel
theorem dX10_opens_129 : decode cX10_opens 129 = .ok (.iconst 0, 1) := by decide +kernel
theorem dX10_opens_130 : decode cX10_opens 130 = .ok (.istore 11, 2) := by decide +kernel
theorem dX10_opens_132 : decode cX10_opens 132 = .ok (.iload 11, 2) := by decide +kernel
theorem dX10_opens_134 : decode cX10_opens 134 = .ok (.aload_n 0, 1) := by decide +kernel
theorem dX10_opens_135 : decode cX10_opens 135 = .ok (.getfield 47, 3) := by decide +kernel
theorem dX10_opens_138 : decode cX10_opens 138 = .ok (.iload 10, 2) := by decide +kernel
theorem dX10_opens_140 : decode cX10_opens 140 = .ok (.iaload, 1) := by decide +kernel
theorem dX10_opens_141 : decode cX10_opens 141 = .ok (.if_icmp .ge 47, 3) := by decide +kernel
theorem dX10_opens_144 : decode cX10_opens 144 = .ok (.aload_n 0, 1) := by decide +kernel
theorem dX10_opens_145 : decode cX10_opens 145 = .ok (.iload 10, 2) := by decide +kernel
theorem dX10_opens_147 : decode cX10_opens 147 = .ok (.invokevirtual 252, 3) := by decide +kernel
theorem dX10_opens_150 : decode cX10_opens 150 = .ok (.ifCond .eq 38, 3) := by decide +kernel
theorem dX10_opens_153 : decode cX10_opens 153 = .ok (.iload 9, 2) := by decide +kernel
theorem dX10_opens_155 : decode cX10_opens 155 = .ok (.aload_n 0, 1) := by decide +kernel
theorem dX10_opens_156 : decode cX10_opens 156 = .ok (.aload_n 0, 1) := by decide +kernel
theorem dX10_opens_157 : decode cX10_opens 157 = .ok (.getfield 50, 3) := by decide +kernel
theorem dX10_opens_160 : decode cX10_opens 160 = .ok (.iconst 5, 1) := by decide +kernel
theorem dX10_opens_161 : decode cX10_opens 161 = .ok (.iload 10, 2) := by decide +kernel
theorem dX10_opens_163 : decode cX10_opens 163 = .ok (.imul, 1) := by decide +kernel
theorem dX10_opens_164 : decode cX10_opens 164 = .ok (.iload 11, 2) := by decide +kernel
theorem dX10_opens_166 : decode cX10_opens 166 = .ok (.iadd, 1) := by decide +kernel
theorem dX10_opens_167 : decode cX10_opens 167 = .ok (.iaload, 1) := by decide +kernel
theorem dX10_opens_168 : decode cX10_opens 168 = .ok (.invokevirtual 255, 3) := by decide +kernel
theorem dX10_opens_171 : decode cX10_opens 171 = .ok (.ifCond .eq 7, 3) := by decide +kernel
theorem dX10_opens_174 : decode cX10_opens 174 = .ok (.iconst 1, 1) := by decide +kernel
theorem dX10_opens_175 : decode cX10_opens 175 = .ok (.goto 4, 3) := by decide +kernel
theorem dX10_opens_178 : decode cX10_opens 178 = .ok (.iconst 0, 1) := by decide +kernel
theorem dX10_opens_179 : decode cX10_opens 179 = .ok (.iadd, 1) := by decide +kernel
theorem dX10_opens_180 : decode cX10_opens 180 = .ok (.istore 9, 2) := by decide +kernel
theorem dX10_opens_182 : decode cX10_opens 182 = .ok (.iinc 11 1, 3) := by decide +kernel
theorem dX10_opens_185 : decode cX10_opens 185 = .ok (.goto (-53), 3) := by decide +kernel
theorem dX10_opens_188 : decode cX10_opens 188 = .ok (.iinc 10 1, 3) := by decide +kernel
theorem dX10_opens_191 : decode cX10_opens 191 = .ok (.goto (-90), 3) := by decide +kernel
theorem dX10_opens_194 : decode cX10_opens 194 = .ok (.iload 7, 2) := by decide +kernel
theorem dX10_opens_196 : decode cX10_opens 196 = .ok (.ifCond .eq 8, 3) := by decide +kernel
theorem dX10_opens_199 : decode cX10_opens 199 = .ok (.iload 9, 2) := by decide +kernel
theorem dX10_opens_201 : decode cX10_opens 201 = .ok (.goto 5, 3) := by decide +kernel
theorem dX10_opens_204 : decode cX10_opens 204 = .ok (.iload 8, 2) := by decide +kernel
theorem dX10_opens_206 : decode cX10_opens 206 = .ok (.ireturn, 1) := by decide +kernel
theorem dX10_mayFollow_0 : decode cX10_mayFollow 0 = .ok (.bipush 24, 2) := by decide +kernel
theorem dX10_mayFollow_2 : decode cX10_mayFollow 2 = .ok (.iload_n 1, 1) := by decide +kernel
theorem dX10_mayFollow_3 : decode cX10_mayFollow 3 = .ok (.imul, 1) := by decide +kernel
theorem dX10_mayFollow_4 : decode cX10_mayFollow 4 = .ok (.iload_n 2, 1) := by decide +kernel
theorem dX10_mayFollow_5 : decode cX10_mayFollow 5 = .ok (.iadd, 1) := by decide +kernel
theorem dX10_mayFollow_6 : decode cX10_mayFollow 6 = .ok (.istore 5, 2) := by decide +kernel
theorem dX10_mayFollow_8 : decode cX10_mayFollow 8 = .ok (.bipush 24, 2) := by decide +kernel
theorem dX10_mayFollow_10 : decode cX10_mayFollow 10 = .ok (.iload_n 1, 1) := by decide +kernel
theorem dX10_mayFollow_11 : decode cX10_mayFollow 11 = .ok (.imul, 1) := by decide +kernel
theorem dX10_mayFollow_12 : decode cX10_mayFollow 12 = .ok (.iload_n 3, 1) := by decide +kernel
theorem dX10_mayFollow_13 : decode cX10_mayFollow 13 = .ok (.iadd, 1) := by decide +kernel
theorem dX10_mayFollow_14 : decode cX10_mayFollow 14 = .ok (.istore 6, 2) := by decide +kernel
theorem dX10_mayFollow_16 : decode cX10_mayFollow 16 = .ok (.aload_n 0, 1) := by decide +kernel
theorem dX10_mayFollow_17 : decode cX10_mayFollow 17 = .ok (.getfield 13, 3) := by decide +kernel
theorem dX10_mayFollow_20 : decode cX10_mayFollow 20 = .ok (.iload 6, 2) := by decide +kernel
theorem dX10_mayFollow_22 : decode cX10_mayFollow 22 = .ok (.iaload, 1) := by decide +kernel
theorem dX10_mayFollow_23 : decode cX10_mayFollow 23 = .ok (.aload_n 0, 1) := by decide +kernel
theorem dX10_mayFollow_24 : decode cX10_mayFollow 24 = .ok (.getfield 13, 3) := by decide +kernel
theorem dX10_mayFollow_27 : decode cX10_mayFollow 27 = .ok (.iload 5, 2) := by decide +kernel
theorem dX10_mayFollow_29 : decode cX10_mayFollow 29 = .ok (.iaload, 1) := by decide +kernel
theorem dX10_mayFollow_30 : decode cX10_mayFollow 30 = .ok (.isub, 1) := by decide +kernel
theorem dX10_mayFollow_31 : decode cX10_mayFollow 31 = .ok (.istore 7, 2) := by decide +kernel
theorem dX10_mayFollow_33 : decode cX10_mayFollow 33 = .ok (.iload_n 3, 1) := by decide +kernel
theorem dX10_mayFollow_34 : decode cX10_mayFollow 34 = .ok (.iload_n 2, 1) := by decide +kernel
theorem dX10_mayFollow_35 : decode cX10_mayFollow 35 = .ok (.iconst 1, 1) := by decide +kernel
theorem dX10_mayFollow_36 : decode cX10_mayFollow 36 = .ok (.iadd, 1) := by decide +kernel
theorem dX10_mayFollow_37 : decode cX10_mayFollow 37 = .ok (.if_icmp .eq 10, 3) := by decide +kernel
theorem dX10_mayFollow_40 : decode cX10_mayFollow 40 = .ok (.iload 7, 2) := by decide +kernel
theorem dX10_mayFollow_42 : decode cX10_mayFollow 42 = .ok (.bipush 16, 2) := by decide +kernel
theorem dX10_mayFollow_44 : decode cX10_mayFollow 44 = .ok (.if_icmp .gt 7, 3) := by decide +kernel
theorem dX10_mayFollow_47 : decode cX10_mayFollow 47 = .ok (.iconst 1, 1) := by decide +kernel
theorem dX10_mayFollow_48 : decode cX10_mayFollow 48 = .ok (.goto 4, 3) := by decide +kernel
theorem dX10_mayFollow_51 : decode cX10_mayFollow 51 = .ok (.iconst 0, 1) := by decide +kernel
theorem dX10_mayFollow_52 : decode cX10_mayFollow 52 = .ok (.istore 8, 2) := by decide +kernel
theorem dX10_mayFollow_54 : decode cX10_mayFollow 54 = .ok (.iload 5, 2) := by decide +kernel
theorem dX10_mayFollow_56 : decode cX10_mayFollow 56 = .ok (.iconst 1, 1) := by decide +kernel
theorem dX10_mayFollow_57 : decode cX10_mayFollow 57 = .ok (.iadd, 1) := by decide +kernel
theorem dX10_mayFollow_58 : decode cX10_mayFollow 58 = .ok (.istore 9, 2) := by decide +kernel
theorem dX10_mayFollow_60 : decode cX10_mayFollow 60 = .ok (.iload 9, 2) := by decide +kernel
theorem dX10_mayFollow_62 : decode cX10_mayFollow 62 = .ok (.iload 6, 2) := by decide +kernel
theorem dX10_mayFollow_64 : decode cX10_mayFollow 64 = .ok (.if_icmp .ge 166, 3) := by decide +kernel
theorem dX10_mayFollow_67 : decode cX10_mayFollow 67 = .ok (.iload 8, 2) := by decide +kernel
theorem dX10_mayFollow_69 : decode cX10_mayFollow 69 = .ok (.ifCond .eq 161, 3) := by decide +kernel
theorem dX10_mayFollow_72 : decode cX10_mayFollow 72 = .ok (.aload_n 0, 1) := by decide +kernel
theorem dX10_mayFollow_73 : decode cX10_mayFollow 73 = .ok (.getfield 13, 3) := by decide +kernel
theorem dX10_mayFollow_76 : decode cX10_mayFollow 76 = .ok (.iload 9, 2) := by decide +kernel
theorem dX10_mayFollow_78 : decode cX10_mayFollow 78 = .ok (.iaload, 1) := by decide +kernel
theorem dX10_mayFollow_79 : decode cX10_mayFollow 79 = .ok (.aload_n 0, 1) := by decide +kernel
theorem dX10_mayFollow_80 : decode cX10_mayFollow 80 = .ok (.getfield 13, 3) := by decide +kernel
theorem dX10_mayFollow_83 : decode cX10_mayFollow 83 = .ok (.iload 5, 2) := by decide +kernel
theorem dX10_mayFollow_85 : decode cX10_mayFollow 85 = .ok (.iaload, 1) := by decide +kernel
theorem dX10_mayFollow_86 : decode cX10_mayFollow 86 = .ok (.isub, 1) := by decide +kernel
theorem dX10_mayFollow_87 : decode cX10_mayFollow 87 = .ok (.istore 10, 2) := by decide +kernel
theorem dX10_mayFollow_89 : decode cX10_mayFollow 89 = .ok (.aload_n 0, 1) := by decide +kernel
theorem dX10_mayFollow_90 : decode cX10_mayFollow 90 = .ok (.getfield 16, 3) := by decide +kernel
theorem dX10_mayFollow_93 : decode cX10_mayFollow 93 = .ok (.iload 9, 2) := by decide +kernel
theorem dX10_mayFollow_95 : decode cX10_mayFollow 95 = .ok (.iaload, 1) := by decide +kernel
theorem dX10_mayFollow_96 : decode cX10_mayFollow 96 = .ok (.iload 7, 2) := by decide +kernel
theorem dX10_mayFollow_98 : decode cX10_mayFollow 98 = .ok (.imul, 1) := by decide +kernel
theorem dX10_mayFollow_99 : decode cX10_mayFollow 99 = .ok (.aload_n 0, 1) := by decide +kernel
theorem dX10_mayFollow_100 : decode cX10_mayFollow 100 = .ok (.getfield 16, 3) := by decide +kernel
theorem dX10_mayFollow_103 : decode cX10_mayFollow 103 = .ok (.iload 5, 2) := by decide +kernel
theorem dX10_mayFollow_105 : decode cX10_mayFollow 105 = .ok (.iaload, 1) := by decide +kernel
theorem dX10_mayFollow_106 : decode cX10_mayFollow 106 = .ok (.iload 7, 2) := by decide +kernel
theorem dX10_mayFollow_108 : decode cX10_mayFollow 108 = .ok (.imul, 1) := by decide +kernel
theorem dX10_mayFollow_109 : decode cX10_mayFollow 109 = .ok (.isub, 1) := by decide +kernel
theorem dX10_mayFollow_110 : decode cX10_mayFollow 110 = .ok (.aload_n 0, 1) := by decide +kernel
theorem dX10_mayFollow_111 : decode cX10_mayFollow 111 = .ok (.getfield 16, 3) := by decide +kernel
theorem dX10_mayFollow_114 : decode cX10_mayFollow 114 = .ok (.iload 6, 2) := by decide +kernel
theorem dX10_mayFollow_116 : decode cX10_mayFollow 116 = .ok (.iaload, 1) := by decide +kernel
theorem dX10_mayFollow_117 : decode cX10_mayFollow 117 = .ok (.aload_n 0, 1) := by decide +kernel
theorem dX10_mayFollow_118 : decode cX10_mayFollow 118 = .ok (.getfield 16, 3) := by decide +kernel
theorem dX10_mayFollow_121 : decode cX10_mayFollow 121 = .ok (.iload 5, 2) := by decide +kernel
theorem dX10_mayFollow_123 : decode cX10_mayFollow 123 = .ok (.iaload, 1) := by decide +kernel
theorem dX10_mayFollow_124 : decode cX10_mayFollow 124 = .ok (.isub, 1) := by decide +kernel
theorem dX10_mayFollow_125 : decode cX10_mayFollow 125 = .ok (.iload 10, 2) := by decide +kernel
theorem dX10_mayFollow_127 : decode cX10_mayFollow 127 = .ok (.imul, 1) := by decide +kernel
theorem dX10_mayFollow_128 : decode cX10_mayFollow 128 = .ok (.isub, 1) := by decide +kernel
theorem dX10_mayFollow_129 : decode cX10_mayFollow 129 = .ok (.istore 11, 2) := by decide +kernel
theorem dX10_mayFollow_131 : decode cX10_mayFollow 131 = .ok (.aload_n 0, 1) := by decide +kernel
theorem dX10_mayFollow_132 : decode cX10_mayFollow 132 = .ok (.getfield 19, 3) := by decide +kernel
theorem dX10_mayFollow_135 : decode cX10_mayFollow 135 = .ok (.iload 9, 2) := by decide +kernel
theorem dX10_mayFollow_137 : decode cX10_mayFollow 137 = .ok (.iaload, 1) := by decide +kernel
theorem dX10_mayFollow_138 : decode cX10_mayFollow 138 = .ok (.iload 7, 2) := by decide +kernel
theorem dX10_mayFollow_140 : decode cX10_mayFollow 140 = .ok (.imul, 1) := by decide +kernel
theorem dX10_mayFollow_141 : decode cX10_mayFollow 141 = .ok (.aload_n 0, 1) := by decide +kernel
theorem dX10_mayFollow_142 : decode cX10_mayFollow 142 = .ok (.getfield 19, 3) := by decide +kernel
theorem dX10_mayFollow_145 : decode cX10_mayFollow 145 = .ok (.iload 5, 2) := by decide +kernel
theorem dX10_mayFollow_147 : decode cX10_mayFollow 147 = .ok (.iaload, 1) := by decide +kernel
theorem dX10_mayFollow_148 : decode cX10_mayFollow 148 = .ok (.iload 7, 2) := by decide +kernel
theorem dX10_mayFollow_150 : decode cX10_mayFollow 150 = .ok (.imul, 1) := by decide +kernel
theorem dX10_mayFollow_151 : decode cX10_mayFollow 151 = .ok (.isub, 1) := by decide +kernel
theorem dX10_mayFollow_152 : decode cX10_mayFollow 152 = .ok (.aload_n 0, 1) := by decide +kernel
theorem dX10_mayFollow_153 : decode cX10_mayFollow 153 = .ok (.getfield 19, 3) := by decide +kernel
theorem dX10_mayFollow_156 : decode cX10_mayFollow 156 = .ok (.iload 6, 2) := by decide +kernel
theorem dX10_mayFollow_158 : decode cX10_mayFollow 158 = .ok (.iaload, 1) := by decide +kernel
theorem dX10_mayFollow_159 : decode cX10_mayFollow 159 = .ok (.aload_n 0, 1) := by decide +kernel
theorem dX10_mayFollow_160 : decode cX10_mayFollow 160 = .ok (.getfield 19, 3) := by decide +kernel
theorem dX10_mayFollow_163 : decode cX10_mayFollow 163 = .ok (.iload 5, 2) := by decide +kernel
theorem dX10_mayFollow_165 : decode cX10_mayFollow 165 = .ok (.iaload, 1) := by decide +kernel
theorem dX10_mayFollow_166 : decode cX10_mayFollow 166 = .ok (.isub, 1) := by decide +kernel
theorem dX10_mayFollow_167 : decode cX10_mayFollow 167 = .ok (.iload 10, 2) := by decide +kernel
theorem dX10_mayFollow_169 : decode cX10_mayFollow 169 = .ok (.imul, 1) := by decide +kernel
theorem dX10_mayFollow_170 : decode cX10_mayFollow 170 = .ok (.isub, 1) := by decide +kernel
theorem dX10_mayFollow_171 : decode cX10_mayFollow 171 = .ok (.istore 12, 2) := by decide +kernel
theorem dX10_mayFollow_173 : decode cX10_mayFollow 173 = .ok (.iload 11, 2) := by decide +kernel
theorem dX10_mayFollow_175 : decode cX10_mayFollow 175 = .ok (.i2l, 1) := by decide +kernel
theorem dX10_mayFollow_176 : decode cX10_mayFollow 176 = .ok (.iload 4, 2) := by decide +kernel
theorem dX10_mayFollow_178 : decode cX10_mayFollow 178 = .ok (.ineg, 1) := by decide +kernel
theorem dX10_mayFollow_179 : decode cX10_mayFollow 179 = .ok (.iload 7, 2) := by decide +kernel
theorem dX10_mayFollow_181 : decode cX10_mayFollow 181 = .ok (.imul, 1) := by decide +kernel
theorem dX10_mayFollow_182 : decode cX10_mayFollow 182 = .ok (.i2l, 1) := by decide +kernel
theorem dX10_mayFollow_183 : decode cX10_mayFollow 183 = .ok (.iload 4, 2) := by decide +kernel
theorem dX10_mayFollow_185 : decode cX10_mayFollow 185 = .ok (.iload 7, 2) := by decide +kernel
theorem dX10_mayFollow_187 : decode cX10_mayFollow 187 = .ok (.imul, 1) := by decide +kernel
theorem dX10_mayFollow_188 : decode cX10_mayFollow 188 = .ok (.i2l, 1) := by decide +kernel
theorem dX10_mayFollow_189 : decode cX10_mayFollow 189 = .ok (.invokestatic 73, 3) := by decide +kernel
theorem dX10_mayFollow_192 : decode cX10_mayFollow 192 = .ok (.ifCond .eq 29, 3) := by decide +kernel
theorem dX10_mayFollow_195 : decode cX10_mayFollow 195 = .ok (.iload 12, 2) := by decide +kernel
theorem dX10_mayFollow_197 : decode cX10_mayFollow 197 = .ok (.i2l, 1) := by decide +kernel
theorem dX10_mayFollow_198 : decode cX10_mayFollow 198 = .ok (.iload 4, 2) := by decide +kernel
theorem dX10_mayFollow_200 : decode cX10_mayFollow 200 = .ok (.ineg, 1) := by decide +kernel
theorem dX10_mayFollow_201 : decode cX10_mayFollow 201 = .ok (.iload 7, 2) := by decide +kernel
theorem dX10_mayFollow_203 : decode cX10_mayFollow 203 = .ok (.imul, 1) := by decide +kernel
theorem dX10_mayFollow_204 : decode cX10_mayFollow 204 = .ok (.i2l, 1) := by decide +kernel
theorem dX10_mayFollow_205 : decode cX10_mayFollow 205 = .ok (.iload 4, 2) := by decide +kernel
theorem dX10_mayFollow_207 : decode cX10_mayFollow 207 = .ok (.iload 7, 2) := by decide +kernel
theorem dX10_mayFollow_209 : decode cX10_mayFollow 209 = .ok (.imul, 1) := by decide +kernel
theorem dX10_mayFollow_210 : decode cX10_mayFollow 210 = .ok (.i2l, 1) := by decide +kernel
theorem dX10_mayFollow_211 : decode cX10_mayFollow 211 = .ok (.invokestatic 73, 3) := by decide +kernel
theorem dX10_mayFollow_214 : decode cX10_mayFollow 214 = .ok (.ifCond .eq 7, 3) := by decide +kernel
theorem dX10_mayFollow_217 : decode cX10_mayFollow 217 = .ok (.iconst 1, 1) := by decide +kernel
theorem dX10_mayFollow_218 : decode cX10_mayFollow 218 = .ok (.goto 4, 3) := by decide +kernel
theorem dX10_mayFollow_221 : decode cX10_mayFollow 221 = .ok (.iconst 0, 1) := by decide +kernel
theorem dX10_mayFollow_222 : decode cX10_mayFollow 222 = .ok (.istore 8, 2) := by decide +kernel
theorem dX10_mayFollow_224 : decode cX10_mayFollow 224 = .ok (.iinc 9 1, 3) := by decide +kernel
theorem dX10_mayFollow_227 : decode cX10_mayFollow 227 = .ok (.goto (-167), 3) := by decide +kernel
theorem dX10_mayFollow_230 : decode cX10_mayFollow 230 = .ok (.iload 8, 2) := by decide +kernel
theorem dX10_mayFollow_232 : decode cX10_mayFollow 232 = .ok (.ireturn, 1) := by decide +kernel
theorem dX10_layThin_0 : decode cX10_layThin 0 = .ok (.aload_n 0, 1) := by decide +kernel
theorem dX10_layThin_1 : decode cX10_layThin 1 = .ok (.getfield 7, 3) := by decide +kernel
theorem dX10_layThin_4 : decode cX10_layThin 4 = .ok (.iload_n 1, 1) := by decide +kernel
theorem dX10_layThin_5 : decode cX10_layThin 5 = .ok (.iaload, 1) := by decide +kernel
theorem dX10_layThin_6 : decode cX10_layThin 6 = .ok (.iconst 1, 1) := by decide +kernel
theorem dX10_layThin_7 : decode cX10_layThin 7 = .ok (.isub, 1) := by decide +kernel
theorem dX10_layThin_8 : decode cX10_layThin 8 = .ok (.istore_n 3, 1) := by decide +kernel
theorem dX10_layThin_9 : decode cX10_layThin 9 = .ok (.iload_n 3, 1) := by decide +kernel
theorem dX10_layThin_10 : decode cX10_layThin 10 = .ok (.ifCond .lt 109, 3) := by decide +kernel
theorem dX10_layThin_13 : decode cX10_layThin 13 = .ok (.aload_n 0, 1) := by decide +kernel
theorem dX10_layThin_14 : decode cX10_layThin 14 = .ok (.getfield 62, 3) := by decide +kernel
theorem dX10_layThin_17 : decode cX10_layThin 17 = .ok (.iload_n 3, 1) := by decide +kernel
theorem dX10_layThin_18 : decode cX10_layThin 18 = .ok (.iload_n 3, 1) := by decide +kernel
theorem dX10_layThin_19 : decode cX10_layThin 19 = .ok (.aload_n 0, 1) := by decide +kernel
theorem dX10_layThin_20 : decode cX10_layThin 20 = .ok (.getfield 7, 3) := by decide +kernel
theorem dX10_layThin_23 : decode cX10_layThin 23 = .ok (.iload_n 1, 1) := by decide +kernel
theorem dX10_layThin_24 : decode cX10_layThin 24 = .ok (.iaload, 1) := by decide +kernel
theorem dX10_layThin_25 : decode cX10_layThin 25 = .ok (.iconst 1, 1) := by decide +kernel
theorem dX10_layThin_26 : decode cX10_layThin 26 = .ok (.isub, 1) := by decide +kernel
theorem dX10_layThin_27 : decode cX10_layThin 27 = .ok (.if_icmp .ne 7, 3) := by decide +kernel
theorem dX10_layThin_30 : decode cX10_layThin 30 = .ok (.iconst 1, 1) := by decide +kernel
theorem dX10_layThin_31 : decode cX10_layThin 31 = .ok (.goto 5, 3) := by decide +kernel
theorem dX10_layThin_34 : decode cX10_layThin 34 = .ok (.ldc 224, 2) := by decide +kernel
theorem dX10_layThin_36 : decode cX10_layThin 36 = .ok (.iastore, 1) := by decide +kernel
theorem dX10_layThin_37 : decode cX10_layThin 37 = .ok (.iload_n 3, 1) := by decide +kernel
theorem dX10_layThin_38 : decode cX10_layThin 38 = .ok (.iconst 1, 1) := by decide +kernel
theorem dX10_layThin_39 : decode cX10_layThin 39 = .ok (.iadd, 1) := by decide +kernel
theorem dX10_layThin_40 : decode cX10_layThin 40 = .ok (.istore 4, 2) := by decide +kernel
theorem dX10_layThin_42 : decode cX10_layThin 42 = .ok (.iload 4, 2) := by decide +kernel
theorem dX10_layThin_44 : decode cX10_layThin 44 = .ok (.aload_n 0, 1) := by decide +kernel
theorem dX10_layThin_45 : decode cX10_layThin 45 = .ok (.getfield 7, 3) := by decide +kernel
theorem dX10_layThin_48 : decode cX10_layThin 48 = .ok (.iload_n 1, 1) := by decide +kernel
theorem dX10_layThin_49 : decode cX10_layThin 49 = .ok (.iaload, 1) := by decide +kernel
theorem dX10_layThin_50 : decode cX10_layThin 50 = .ok (.if_icmp .ge 63, 3) := by decide +kernel
theorem dX10_layThin_53 : decode cX10_layThin 53 = .ok (.aload_n 0, 1) := by decide +kernel
theorem dX10_layThin_54 : decode cX10_layThin 54 = .ok (.getfield 62, 3) := by decide +kernel
theorem dX10_layThin_57 : decode cX10_layThin 57 = .ok (.iload_n 3, 1) := by decide +kernel
theorem dX10_layThin_58 : decode cX10_layThin 58 = .ok (.aload_n 0, 1) := by decide +kernel
theorem dX10_layThin_59 : decode cX10_layThin 59 = .ok (.iload_n 1, 1) := by decide +kernel
theorem dX10_layThin_60 : decode cX10_layThin 60 = .ok (.iload_n 3, 1) := by decide +kernel
theorem dX10_layThin_61 : decode cX10_layThin 61 = .ok (.iload 4, 2) := by decide +kernel
theorem dX10_layThin_63 : decode cX10_layThin 63 = .ok (.iload_n 2, 1) := by decide +kernel
theorem dX10_layThin_64 : decode cX10_layThin 64 = .ok (.invokevirtual 258, 3) := by decide +kernel
theorem dX10_layThin_67 : decode cX10_layThin 67 = .ok (.ifCond .eq 33, 3) := by decide +kernel
theorem dX10_layThin_70 : decode cX10_layThin 70 = .ok (.aload_n 0, 1) := by decide +kernel
theorem dX10_layThin_71 : decode cX10_layThin 71 = .ok (.getfield 62, 3) := by decide +kernel
theorem dX10_layThin_74 : decode cX10_layThin 74 = .ok (.iload 4, 2) := by decide +kernel
theorem dX10_layThin_76 : decode cX10_layThin 76 = .ok (.iaload, 1) := by decide +kernel
theorem dX10_layThin_77 : decode cX10_layThin 77 = .ok (.iconst 1, 1) := by decide +kernel
theorem dX10_layThin_78 : decode cX10_layThin 78 = .ok (.iadd, 1) := by decide +kernel
theorem dX10_layThin_79 : decode cX10_layThin 79 = .ok (.aload_n 0, 1) := by decide +kernel
theorem dX10_layThin_80 : decode cX10_layThin 80 = .ok (.getfield 62, 3) := by decide +kernel
theorem dX10_layThin_83 : decode cX10_layThin 83 = .ok (.iload_n 3, 1) := by decide +kernel
theorem dX10_layThin_84 : decode cX10_layThin 84 = .ok (.iaload, 1) := by decide +kernel
theorem dX10_layThin_85 : decode cX10_layThin 85 = .ok (.if_icmp .ge 15, 3) := by decide +kernel
theorem dX10_layThin_88 : decode cX10_layThin 88 = .ok (.aload_n 0, 1) := by decide +kernel
theorem dX10_layThin_89 : decode cX10_layThin 89 = .ok (.getfield 62, 3) := by decide +kernel
theorem dX10_layThin_92 : decode cX10_layThin 92 = .ok (.iload 4, 2) := by decide +kernel
theorem dX10_layThin_94 : decode cX10_layThin 94 = .ok (.iaload, 1) := by decide +kernel
theorem dX10_layThin_95 : decode cX10_layThin 95 = .ok (.iconst 1, 1) := by decide +kernel
theorem dX10_layThin_96 : decode cX10_layThin 96 = .ok (.iadd, 1) := by decide +kernel
theorem dX10_layThin_97 : decode cX10_layThin 97 = .ok (.goto 9, 3) := by decide +kernel
theorem dX10_layThin_100 : decode cX10_layThin 100 = .ok (.aload_n 0, 1) := by decide +kernel
theorem dX10_layThin_101 : decode cX10_layThin 101 = .ok (.getfield 62, 3) := by decide +kernel
theorem dX10_layThin_104 : decode cX10_layThin 104 = .ok (.iload_n 3, 1) := by decide +kernel
theorem dX10_layThin_105 : decode cX10_layThin 105 = .ok (.iaload, 1) := by decide +kernel
theorem dX10_layThin_106 : decode cX10_layThin 106 = .ok (.iastore, 1) := by decide +kernel
theorem dX10_layThin_107 : decode cX10_layThin 107 = .ok (.iinc 4 1, 3) := by decide +kernel
theorem dX10_layThin_110 : decode cX10_layThin 110 = .ok (.goto (-68), 3) := by decide +kernel
theorem dX10_layThin_113 : decode cX10_layThin 113 = .ok (.iinc 3 (-1), 3) := by decide +kernel
theorem dX10_layThin_116 : decode cX10_layThin 116 = .ok (.goto (-107), 3) := by decide +kernel
theorem dX10_layThin_119 : decode cX10_layThin 119 = .ok (.iconst 0, 1) := by decide +kernel
theorem dX10_layThin_120 : decode cX10_layThin 120 = .ok (.istore_n 3, 1) := by decide +kernel
theorem dX10_layThin_121 : decode cX10_layThin 121 = .ok (.iconst 0, 1) := by decide +kernel
theorem dX10_layThin_122 : decode cX10_layThin 122 = .ok (.istore 4, 2) := by decide +kernel
theorem dX10_layThin_124 : decode cX10_layThin 124 = .ok (.iload 4, 2) := by decide +kernel
theorem dX10_layThin_126 : decode cX10_layThin 126 = .ok (.aload_n 0, 1) := by decide +kernel
theorem dX10_layThin_127 : decode cX10_layThin 127 = .ok (.getfield 7, 3) := by decide +kernel
theorem dX10_layThin_130 : decode cX10_layThin 130 = .ok (.iload_n 1, 1) := by decide +kernel
theorem dX10_layThin_131 : decode cX10_layThin 131 = .ok (.iaload, 1) := by decide +kernel
theorem dX10_layThin_132 : decode cX10_layThin 132 = .ok (.if_icmp .ge 76, 3) := by decide +kernel
theorem dX10_layThin_135 : decode cX10_layThin 135 = .ok (.aload_n 0, 1) := by decide +kernel
theorem dX10_layThin_136 : decode cX10_layThin 136 = .ok (.getfield 65, 3) := by decide +kernel
theorem dX10_layThin_139 : decode cX10_layThin 139 = .ok (.iload_n 3, 1) := by decide +kernel
theorem dX10_layThin_140 : decode cX10_layThin 140 = .ok (.iload 4, 2) := by decide +kernel
theorem dX10_layThin_142 : decode cX10_layThin 142 = .ok (.iastore, 1) := by decide +kernel
theorem dX10_layThin_143 : decode cX10_layThin 143 = .ok (.iinc 3 1, 3) := by decide +kernel
theorem dX10_layThin_146 : decode cX10_layThin 146 = .ok (.iload 4, 2) := by decide +kernel
theorem dX10_layThin_148 : decode cX10_layThin 148 = .ok (.iconst 1, 1) := by decide +kernel
theorem dX10_layThin_149 : decode cX10_layThin 149 = .ok (.iadd, 1) := by decide +kernel
theorem dX10_layThin_150 : decode cX10_layThin 150 = .ok (.istore 5, 2) := by decide +kernel
theorem dX10_layThin_152 : decode cX10_layThin 152 = .ok (.iload 5, 2) := by decide +kernel
theorem dX10_layThin_154 : decode cX10_layThin 154 = .ok (.aload_n 0, 1) := by decide +kernel
theorem dX10_layThin_155 : decode cX10_layThin 155 = .ok (.getfield 7, 3) := by decide +kernel
theorem dX10_layThin_158 : decode cX10_layThin 158 = .ok (.iload_n 1, 1) := by decide +kernel
theorem dX10_layThin_159 : decode cX10_layThin 159 = .ok (.iaload, 1) := by decide +kernel
theorem dX10_layThin_160 : decode cX10_layThin 160 = .ok (.if_icmp .ge 41, 3) := by decide +kernel
theorem dX10_layThin_163 : decode cX10_layThin 163 = .ok (.aload_n 0, 1) := by decide +kernel
theorem dX10_layThin_164 : decode cX10_layThin 164 = .ok (.iload_n 1, 1) := by decide +kernel
theorem dX10_layThin_165 : decode cX10_layThin 165 = .ok (.iload 4, 2) := by decide +kernel
theorem dX10_layThin_167 : decode cX10_layThin 167 = .ok (.iload 5, 2) := by decide +kernel
theorem dX10_layThin_169 : decode cX10_layThin 169 = .ok (.iload_n 2, 1) := by decide +kernel
theorem dX10_layThin_170 : decode cX10_layThin 170 = .ok (.invokevirtual 258, 3) := by decide +kernel
theorem dX10_layThin_173 : decode cX10_layThin 173 = .ok (.ifCond .eq 22, 3) := by decide +kernel
theorem dX10_layThin_176 : decode cX10_layThin 176 = .ok (.aload_n 0, 1) := by decide +kernel
theorem dX10_layThin_177 : decode cX10_layThin 177 = .ok (.getfield 62, 3) := by decide +kernel
theorem dX10_layThin_180 : decode cX10_layThin 180 = .ok (.iload 5, 2) := by decide +kernel
theorem dX10_layThin_182 : decode cX10_layThin 182 = .ok (.iaload, 1) := by decide +kernel
theorem dX10_layThin_183 : decode cX10_layThin 183 = .ok (.iconst 1, 1) := by decide +kernel
theorem dX10_layThin_184 : decode cX10_layThin 184 = .ok (.iadd, 1) := by decide +kernel
theorem dX10_layThin_185 : decode cX10_layThin 185 = .ok (.aload_n 0, 1) := by decide +kernel
theorem dX10_layThin_186 : decode cX10_layThin 186 = .ok (.getfield 62, 3) := by decide +kernel
theorem dX10_layThin_189 : decode cX10_layThin 189 = .ok (.iload 4, 2) := by decide +kernel
theorem dX10_layThin_191 : decode cX10_layThin 191 = .ok (.iaload, 1) := by decide +kernel
theorem dX10_layThin_192 : decode cX10_layThin 192 = .ok (.if_icmp .eq 9, 3) := by decide +kernel
theorem dX10_layThin_195 : decode cX10_layThin 195 = .ok (.iinc 5 1, 3) := by decide +kernel
theorem dX10_layThin_198 : decode cX10_layThin 198 = .ok (.goto (-46), 3) := by decide +kernel
theorem dX10_layThin_201 : decode cX10_layThin 201 = .ok (.iload 5, 2) := by decide +kernel
theorem dX10_layThin_203 : decode cX10_layThin 203 = .ok (.istore 4, 2) := by decide +kernel
theorem dX10_layThin_205 : decode cX10_layThin 205 = .ok (.goto (-81), 3) := by decide +kernel
theorem dX10_layThin_208 : decode cX10_layThin 208 = .ok (.iload_n 3, 1) := by decide +kernel
theorem dX10_layThin_209 : decode cX10_layThin 209 = .ok (.ireturn, 1) := by decide +kernel
theorem dX10_mayThin_0 : decode cX10_mayThin 0 = .ok (.iload_n 1, 1) := by decide +kernel
theorem dX10_mayThin_1 : decode cX10_mayThin 1 = .ok (.invokestatic 79, 3) := by decide +kernel
theorem dX10_mayThin_4 : decode cX10_mayThin 4 = .ok (.ifCond .ne 8, 3) := by decide +kernel
theorem dX10_mayThin_7 : decode cX10_mayThin 7 = .ok (.ldc 83, 2) := by decide +kernel
theorem dX10_mayThin_9 : decode cX10_mayThin 9 = .ok (.goto 21, 3) := by decide +kernel
theorem dX10_mayThin_12 : decode cX10_mayThin 12 = .ok (.iload_n 2, 1) := by decide +kernel
theorem dX10_mayThin_13 : decode cX10_mayThin 13 = .ok (.i2l, 1) := by decide +kernel
theorem dX10_mayThin_14 : decode cX10_mayThin 14 = .ok (.lconst 0, 1) := by decide +kernel
theorem dX10_mayThin_15 : decode cX10_mayThin 15 = .ok (.ldc2_w 87, 3) := by decide +kernel
theorem dX10_mayThin_18 : decode cX10_mayThin 18 = .ok (.invokestatic 73, 3) := by decide +kernel
theorem dX10_mayThin_21 : decode cX10_mayThin 21 = .ok (.ifCond .eq 7, 3) := by decide +kernel
theorem dX10_mayThin_24 : decode cX10_mayThin 24 = .ok (.iconst 0, 1) := by decide +kernel
theorem dX10_mayThin_25 : decode cX10_mayThin 25 = .ok (.goto 5, 3) := by decide +kernel
theorem dX10_mayThin_28 : decode cX10_mayThin 28 = .ok (.ldc 89, 2) := by decide +kernel
theorem dX10_mayThin_30 : decode cX10_mayThin 30 = .ok (.ireturn, 1) := by decide +kernel
theorem dX10_thin_0 : decode cX10_thin 0 = .ok (.aload_n 0, 1) := by decide +kernel
theorem dX10_thin_1 : decode cX10_thin 1 = .ok (.iload_n 1, 1) := by decide +kernel
theorem dX10_thin_2 : decode cX10_thin 2 = .ok (.iload_n 2, 1) := by decide +kernel
theorem dX10_thin_3 : decode cX10_thin 3 = .ok (.invokevirtual 261, 3) := by decide +kernel
theorem dX10_thin_6 : decode cX10_thin 6 = .ok (.istore_n 3, 1) := by decide +kernel
theorem dX10_thin_7 : decode cX10_thin 7 = .ok (.iload_n 3, 1) := by decide +kernel
theorem dX10_thin_8 : decode cX10_thin 8 = .ok (.ifCond .ge 7, 3) := by decide +kernel
theorem dX10_thin_11 : decode cX10_thin 11 = .ok (.iload_n 3, 1) := by decide +kernel
theorem dX10_thin_12 : decode cX10_thin 12 = .ok (.goto 9, 3) := by decide +kernel
theorem dX10_thin_15 : decode cX10_thin 15 = .ok (.aload_n 0, 1) := by decide +kernel
theorem dX10_thin_16 : decode cX10_thin 16 = .ok (.iload_n 1, 1) := by decide +kernel
theorem dX10_thin_17 : decode cX10_thin 17 = .ok (.iload_n 2, 1) := by decide +kernel
theorem dX10_thin_18 : decode cX10_thin 18 = .ok (.invokevirtual 264, 3) := by decide +kernel
theorem dX10_thin_21 : decode cX10_thin 21 = .ok (.ireturn, 1) := by decide +kernel
theorem dX10_kept_0 : decode cX10_kept 0 = .ok (.aload_n 0, 1) := by decide +kernel
theorem dX10_kept_1 : decode cX10_kept 1 = .ok (.iload_n 1, 1) := by decide +kernel
theorem dX10_kept_2 : decode cX10_kept 2 = .ok (.iload_n 2, 1) := by decide +kernel
theorem dX10_kept_3 : decode cX10_kept 3 = .ok (.invokevirtual 261, 3) := by decide +kernel
theorem dX10_kept_6 : decode cX10_kept 6 = .ok (.istore 4, 2) := by decide +kernel
theorem dX10_kept_8 : decode cX10_kept 8 = .ok (.iload 4, 2) := by decide +kernel
theorem dX10_kept_10 : decode cX10_kept 10 = .ok (.ifCond .ge 6, 3) := by decide +kernel
theorem dX10_kept_13 : decode cX10_kept 13 = .ok (.iload 4, 2) := by decide +kernel
theorem dX10_kept_15 : decode cX10_kept 15 = .ok (.ireturn, 1) := by decide +kernel
theorem dX10_kept_16 : decode cX10_kept 16 = .ok (.aload_n 0, 1) := by decide +kernel
theorem dX10_kept_17 : decode cX10_kept 17 = .ok (.iload_n 1, 1) := by decide +kernel
theorem dX10_kept_18 : decode cX10_kept 18 = .ok (.iload_n 2, 1) := by decide +kernel
theorem dX10_kept_19 : decode cX10_kept 19 = .ok (.invokevirtual 264, 3) := by decide +kernel
theorem dX10_kept_22 : decode cX10_kept 22 = .ok (.istore 5, 2) := by decide +kernel
theorem dX10_kept_24 : decode cX10_kept 24 = .ok (.iload_n 3, 1) := by decide +kernel
theorem dX10_kept_25 : decode cX10_kept 25 = .ok (.i2l, 1) := by decide +kernel
theorem dX10_kept_26 : decode cX10_kept 26 = .ok (.lconst 0, 1) := by decide +kernel
theorem dX10_kept_27 : decode cX10_kept 27 = .ok (.iload 5, 2) := by decide +kernel
theorem dX10_kept_29 : decode cX10_kept 29 = .ok (.iconst 1, 1) := by decide +kernel
theorem dX10_kept_30 : decode cX10_kept 30 = .ok (.isub, 1) := by decide +kernel
theorem dX10_kept_31 : decode cX10_kept 31 = .ok (.i2l, 1) := by decide +kernel
theorem dX10_kept_32 : decode cX10_kept 32 = .ok (.invokestatic 73, 3) := by decide +kernel
theorem dX10_kept_35 : decode cX10_kept 35 = .ok (.ifCond .eq 12, 3) := by decide +kernel
theorem dX10_kept_38 : decode cX10_kept 38 = .ok (.aload_n 0, 1) := by decide +kernel
theorem dX10_kept_39 : decode cX10_kept 39 = .ok (.getfield 65, 3) := by decide +kernel
theorem dX10_kept_42 : decode cX10_kept 42 = .ok (.iload_n 3, 1) := by decide +kernel
theorem dX10_kept_43 : decode cX10_kept 43 = .ok (.iaload, 1) := by decide +kernel
theorem dX10_kept_44 : decode cX10_kept 44 = .ok (.goto 5, 3) := by decide +kernel
theorem dX10_kept_47 : decode cX10_kept 47 = .ok (.ldc 149, 2) := by decide +kernel
theorem dX10_kept_49 : decode cX10_kept 49 = .ok (.ireturn, 1) := by decide +kernel
theorem dX10_thinned_0 : decode cX10_thinned 0 = .ok (.aload_n 0, 1) := by decide +kernel
theorem dX10_thinned_1 : decode cX10_thinned 1 = .ok (.iload_n 1, 1) := by decide +kernel
theorem dX10_thinned_2 : decode cX10_thinned 2 = .ok (.iload_n 2, 1) := by decide +kernel
theorem dX10_thinned_3 : decode cX10_thinned 3 = .ok (.invokevirtual 261, 3) := by decide +kernel
theorem dX10_thinned_6 : decode cX10_thinned 6 = .ok (.istore_n 3, 1) := by decide +kernel
theorem dX10_thinned_7 : decode cX10_thinned 7 = .ok (.iload_n 3, 1) := by decide +kernel
theorem dX10_thinned_8 : decode cX10_thinned 8 = .ok (.ifCond .ge 5, 3) := by decide +kernel
theorem dX10_thinned_11 : decode cX10_thinned 11 = .ok (.iload_n 3, 1) := by decide +kernel
theorem dX10_thinned_12 : decode cX10_thinned 12 = .ok (.ireturn, 1) := by decide +kernel
theorem dX10_thinned_13 : decode cX10_thinned 13 = .ok (.aload_n 0, 1) := by decide +kernel
theorem dX10_thinned_14 : decode cX10_thinned 14 = .ok (.getfield 7, 3) := by decide +kernel
theorem dX10_thinned_17 : decode cX10_thinned 17 = .ok (.iload_n 1, 1) := by decide +kernel
theorem dX10_thinned_18 : decode cX10_thinned 18 = .ok (.iaload, 1) := by decide +kernel
theorem dX10_thinned_19 : decode cX10_thinned 19 = .ok (.istore 4, 2) := by decide +kernel
theorem dX10_thinned_21 : decode cX10_thinned 21 = .ok (.aload_n 0, 1) := by decide +kernel
theorem dX10_thinned_22 : decode cX10_thinned 22 = .ok (.iload_n 1, 1) := by decide +kernel
theorem dX10_thinned_23 : decode cX10_thinned 23 = .ok (.iload_n 2, 1) := by decide +kernel
theorem dX10_thinned_24 : decode cX10_thinned 24 = .ok (.invokevirtual 264, 3) := by decide +kernel
theorem dX10_thinned_27 : decode cX10_thinned 27 = .ok (.istore 5, 2) := by decide +kernel
theorem dX10_thinned_29 : decode cX10_thinned 29 = .ok (.iconst 0, 1) := by decide +kernel
theorem dX10_thinned_30 : decode cX10_thinned 30 = .ok (.istore 6, 2) := by decide +kernel
theorem dX10_thinned_32 : decode cX10_thinned 32 = .ok (.iload 6, 2) := by decide +kernel
theorem dX10_thinned_34 : decode cX10_thinned 34 = .ok (.iload 5, 2) := by decide +kernel
theorem dX10_thinned_36 : decode cX10_thinned 36 = .ok (.if_icmp .ge 23, 3) := by decide +kernel
theorem dX10_thinned_39 : decode cX10_thinned 39 = .ok (.aload_n 0, 1) := by decide +kernel
theorem dX10_thinned_40 : decode cX10_thinned 40 = .ok (.iload_n 1, 1) := by decide +kernel
theorem dX10_thinned_41 : decode cX10_thinned 41 = .ok (.aload_n 0, 1) := by decide +kernel
theorem dX10_thinned_42 : decode cX10_thinned 42 = .ok (.getfield 65, 3) := by decide +kernel
theorem dX10_thinned_45 : decode cX10_thinned 45 = .ok (.iload 6, 2) := by decide +kernel
theorem dX10_thinned_47 : decode cX10_thinned 47 = .ok (.iaload, 1) := by decide +kernel
theorem dX10_thinned_48 : decode cX10_thinned 48 = .ok (.iload 6, 2) := by decide +kernel
theorem dX10_thinned_50 : decode cX10_thinned 50 = .ok (.invokevirtual 91, 3) := by decide +kernel
theorem dX10_thinned_53 : decode cX10_thinned 53 = .ok (.iinc 6 1, 3) := by decide +kernel
theorem dX10_thinned_56 : decode cX10_thinned 56 = .ok (.goto (-24), 3) := by decide +kernel
theorem dX10_thinned_59 : decode cX10_thinned 59 = .ok (.aload_n 0, 1) := by decide +kernel
theorem dX10_thinned_60 : decode cX10_thinned 60 = .ok (.getfield 7, 3) := by decide +kernel
theorem dX10_thinned_63 : decode cX10_thinned 63 = .ok (.iload_n 1, 1) := by decide +kernel
theorem dX10_thinned_64 : decode cX10_thinned 64 = .ok (.iload 5, 2) := by decide +kernel
theorem dX10_thinned_66 : decode cX10_thinned 66 = .ok (.iastore, 1) := by decide +kernel
theorem dX10_thinned_67 : decode cX10_thinned 67 = .ok (.iload 4, 2) := by decide +kernel
theorem dX10_thinned_69 : decode cX10_thinned 69 = .ok (.iload 5, 2) := by decide +kernel
theorem dX10_thinned_71 : decode cX10_thinned 71 = .ok (.isub, 1) := by decide +kernel
theorem dX10_thinned_72 : decode cX10_thinned 72 = .ok (.ireturn, 1) := by decide +kernel
theorem dX10_pass_0 : decode cX10_pass 0 = .ok (.iload_n 1, 1) := by decide +kernel
theorem dX10_pass_1 : decode cX10_pass 1 = .ok (.i2l, 1) := by decide +kernel
theorem dX10_pass_2 : decode cX10_pass 2 = .ok (.lconst 1, 1) := by decide +kernel
theorem dX10_pass_3 : decode cX10_pass 3 = .ok (.ldc2_w 267, 3) := by decide +kernel
theorem dX10_pass_6 : decode cX10_pass 6 = .ok (.invokestatic 73, 3) := by decide +kernel
theorem dX10_pass_9 : decode cX10_pass 9 = .ok (.ifCond .ne 6, 3) := by decide +kernel
theorem dX10_pass_12 : decode cX10_pass 12 = .ok (.ldc 89, 2) := by decide +kernel
theorem dX10_pass_14 : decode cX10_pass 14 = .ok (.ireturn, 1) := by decide +kernel
theorem dX10_pass_15 : decode cX10_pass 15 = .ok (.aload_n 0, 1) := by decide +kernel
theorem dX10_pass_16 : decode cX10_pass 16 = .ok (.getfield 269, 3) := by decide +kernel
theorem dX10_pass_19 : decode cX10_pass 19 = .ok (.iload_n 1, 1) := by decide +kernel
theorem dX10_pass_20 : decode cX10_pass 20 = .ok (.iadd, 1) := by decide +kernel
theorem dX10_pass_21 : decode cX10_pass 21 = .ok (.sipush 200, 3) := by decide +kernel
theorem dX10_pass_24 : decode cX10_pass 24 = .ok (.if_icmp .lt 6, 3) := by decide +kernel
theorem dX10_pass_27 : decode cX10_pass 27 = .ok (.ldc 90, 2) := by decide +kernel
theorem dX10_pass_29 : decode cX10_pass 29 = .ok (.ireturn, 1) := by decide +kernel
theorem dX10_pass_30 : decode cX10_pass 30 = .ok (.aload_n 0, 1) := by decide +kernel
theorem dX10_pass_31 : decode cX10_pass 31 = .ok (.dup, 1) := by decide +kernel
theorem dX10_pass_32 : decode cX10_pass 32 = .ok (.getfield 269, 3) := by decide +kernel
theorem dX10_pass_35 : decode cX10_pass 35 = .ok (.iload_n 1, 1) := by decide +kernel
theorem dX10_pass_36 : decode cX10_pass 36 = .ok (.iadd, 1) := by decide +kernel
theorem dX10_pass_37 : decode cX10_pass 37 = .ok (.putfield 269, 3) := by decide +kernel
theorem dX10_pass_40 : decode cX10_pass 40 = .ok (.aload_n 0, 1) := by decide +kernel
theorem dX10_pass_41 : decode cX10_pass 41 = .ok (.getfield 269, 3) := by decide +kernel
theorem dX10_pass_44 : decode cX10_pass 44 = .ok (.ireturn, 1) := by decide +kernel
theorem dX10_stand__0 : decode cX10_stand_ 0 = .ok (.iload_n 1, 1) := by decide +kernel
theorem dX10_stand__1 : decode cX10_stand_ 1 = .ok (.iload_n 2, 1) := by decide +kernel
theorem dX10_stand__2 : decode cX10_stand_ 2 = .ok (.invokestatic 142, 3) := by decide +kernel
theorem dX10_stand__5 : decode cX10_stand_ 5 = .ok (.ifCond .eq 12, 3) := by decide +kernel
theorem dX10_stand__8 : decode cX10_stand_ 8 = .ok (.iload_n 3, 1) := by decide +kernel
theorem dX10_stand__9 : decode cX10_stand_ 9 = .ok (.iload 4, 2) := by decide +kernel
theorem dX10_stand__11 : decode cX10_stand_ 11 = .ok (.invokestatic 142, 3) := by decide +kernel
theorem dX10_stand__14 : decode cX10_stand_ 14 = .ok (.ifCond .ne 6, 3) := by decide +kernel
theorem dX10_stand__17 : decode cX10_stand_ 17 = .ok (.ldc 89, 2) := by decide +kernel
theorem dX10_stand__19 : decode cX10_stand_ 19 = .ok (.ireturn, 1) := by decide +kernel
theorem dX10_stand__20 : decode cX10_stand_ 20 = .ok (.aload_n 0, 1) := by decide +kernel
theorem dX10_stand__21 : decode cX10_stand_ 21 = .ok (.getfield 272, 3) := by decide +kernel
theorem dX10_stand__24 : decode cX10_stand_ 24 = .ok (.bipush 6, 2) := by decide +kernel
theorem dX10_stand__26 : decode cX10_stand_ 26 = .ok (.if_icmp .ne 6, 3) := by decide +kernel
theorem dX10_stand__29 : decode cX10_stand_ 29 = .ok (.ldc 90, 2) := by decide +kernel
theorem dX10_stand__31 : decode cX10_stand_ 31 = .ok (.ireturn, 1) := by decide +kernel
theorem dX10_stand__32 : decode cX10_stand_ 32 = .ok (.aload_n 0, 1) := by decide +kernel
theorem dX10_stand__33 : decode cX10_stand_ 33 = .ok (.getfield 68, 3) := by decide +kernel
theorem dX10_stand__36 : decode cX10_stand_ 36 = .ok (.iconst 4, 1) := by decide +kernel
theorem dX10_stand__37 : decode cX10_stand_ 37 = .ok (.aload_n 0, 1) := by decide +kernel
theorem dX10_stand__38 : decode cX10_stand_ 38 = .ok (.getfield 272, 3) := by decide +kernel
theorem dX10_stand__41 : decode cX10_stand_ 41 = .ok (.imul, 1) := by decide +kernel
theorem dX10_stand__42 : decode cX10_stand_ 42 = .ok (.iload_n 1, 1) := by decide +kernel
theorem dX10_stand__43 : decode cX10_stand_ 43 = .ok (.iastore, 1) := by decide +kernel
theorem dX10_stand__44 : decode cX10_stand_ 44 = .ok (.aload_n 0, 1) := by decide +kernel
theorem dX10_stand__45 : decode cX10_stand_ 45 = .ok (.getfield 68, 3) := by decide +kernel
theorem dX10_stand__48 : decode cX10_stand_ 48 = .ok (.iconst 4, 1) := by decide +kernel
theorem dX10_stand__49 : decode cX10_stand_ 49 = .ok (.aload_n 0, 1) := by decide +kernel
theorem dX10_stand__50 : decode cX10_stand_ 50 = .ok (.getfield 272, 3) := by decide +kernel
theorem dX10_stand__53 : decode cX10_stand_ 53 = .ok (.imul, 1) := by decide +kernel
theorem dX10_stand__54 : decode cX10_stand_ 54 = .ok (.iconst 1, 1) := by decide +kernel
theorem dX10_stand__55 : decode cX10_stand_ 55 = .ok (.iadd, 1) := by decide +kernel
theorem dX10_stand__56 : decode cX10_stand_ 56 = .ok (.iload_n 2, 1) := by decide +kernel
theorem dX10_stand__57 : decode cX10_stand_ 57 = .ok (.iastore, 1) := by decide +kernel
theorem dX10_stand__58 : decode cX10_stand_ 58 = .ok (.aload_n 0, 1) := by decide +kernel
theorem dX10_stand__59 : decode cX10_stand_ 59 = .ok (.getfield 68, 3) := by decide +kernel
theorem dX10_stand__62 : decode cX10_stand_ 62 = .ok (.iconst 4, 1) := by decide +kernel
theorem dX10_stand__63 : decode cX10_stand_ 63 = .ok (.aload_n 0, 1) := by decide +kernel
theorem dX10_stand__64 : decode cX10_stand_ 64 = .ok (.getfield 272, 3) := by decide +kernel
theorem dX10_stand__67 : decode cX10_stand_ 67 = .ok (.imul, 1) := by decide +kernel
theorem dX10_stand__68 : decode cX10_stand_ 68 = .ok (.iconst 2, 1) := by decide +kernel
theorem dX10_stand__69 : decode cX10_stand_ 69 = .ok (.iadd, 1) := by decide +kernel
theorem dX10_stand__70 : decode cX10_stand_ 70 = .ok (.iload_n 3, 1) := by decide +kernel
theorem dX10_stand__71 : decode cX10_stand_ 71 = .ok (.iastore, 1) := by decide +kernel
theorem dX10_stand__72 : decode cX10_stand_ 72 = .ok (.aload_n 0, 1) := by decide +kernel
theorem dX10_stand__73 : decode cX10_stand_ 73 = .ok (.getfield 68, 3) := by decide +kernel
theorem dX10_stand__76 : decode cX10_stand_ 76 = .ok (.iconst 4, 1) := by decide +kernel
theorem dX10_stand__77 : decode cX10_stand_ 77 = .ok (.aload_n 0, 1) := by decide +kernel
theorem dX10_stand__78 : decode cX10_stand_ 78 = .ok (.getfield 272, 3) := by decide +kernel
theorem dX10_stand__81 : decode cX10_stand_ 81 = .ok (.imul, 1) := by decide +kernel
theorem dX10_stand__82 : decode cX10_stand_ 82 = .ok (.iconst 3, 1) := by decide +kernel
theorem dX10_stand__83 : decode cX10_stand_ 83 = .ok (.iadd, 1) := by decide +kernel
theorem dX10_stand__84 : decode cX10_stand_ 84 = .ok (.iload 4, 2) := by decide +kernel
theorem dX10_stand__86 : decode cX10_stand_ 86 = .ok (.iastore, 1) := by decide +kernel
theorem dX10_stand__87 : decode cX10_stand_ 87 = .ok (.aload_n 0, 1) := by decide +kernel
theorem dX10_stand__88 : decode cX10_stand_ 88 = .ok (.dup, 1) := by decide +kernel
theorem dX10_stand__89 : decode cX10_stand_ 89 = .ok (.getfield 272, 3) := by decide +kernel
theorem dX10_stand__92 : decode cX10_stand_ 92 = .ok (.iconst 1, 1) := by decide +kernel
theorem dX10_stand__93 : decode cX10_stand_ 93 = .ok (.iadd, 1) := by decide +kernel
theorem dX10_stand__94 : decode cX10_stand_ 94 = .ok (.putfield 272, 3) := by decide +kernel
theorem dX10_stand__97 : decode cX10_stand_ 97 = .ok (.aload_n 0, 1) := by decide +kernel
theorem dX10_stand__98 : decode cX10_stand_ 98 = .ok (.getfield 272, 3) := by decide +kernel
theorem dX10_stand__101 : decode cX10_stand_ 101 = .ok (.iconst 1, 1) := by decide +kernel
theorem dX10_stand__102 : decode cX10_stand_ 102 = .ok (.isub, 1) := by decide +kernel
theorem dX10_stand__103 : decode cX10_stand_ 103 = .ok (.ireturn, 1) := by decide +kernel
theorem dX10_isInStand_0 : decode cX10_isInStand 0 = .ok (.iload_n 3, 1) := by decide +kernel
theorem dX10_isInStand_1 : decode cX10_isInStand 1 = .ok (.ifCond .lt 54, 3) := by decide +kernel
theorem dX10_isInStand_4 : decode cX10_isInStand 4 = .ok (.aload_n 0, 1) := by decide +kernel
theorem dX10_isInStand_5 : decode cX10_isInStand 5 = .ok (.iload_n 2, 1) := by decide +kernel
theorem dX10_isInStand_6 : decode cX10_isInStand 6 = .ok (.iload_n 3, 1) := by decide +kernel
theorem dX10_isInStand_7 : decode cX10_isInStand 7 = .ok (.aload_n 0, 1) := by decide +kernel
theorem dX10_isInStand_8 : decode cX10_isInStand 8 = .ok (.getfield 68, 3) := by decide +kernel
theorem dX10_isInStand_11 : decode cX10_isInStand 11 = .ok (.iconst 4, 1) := by decide +kernel
theorem dX10_isInStand_12 : decode cX10_isInStand 12 = .ok (.iload_n 1, 1) := by decide +kernel
theorem dX10_isInStand_13 : decode cX10_isInStand 13 = .ok (.imul, 1) := by decide +kernel
theorem dX10_isInStand_14 : decode cX10_isInStand 14 = .ok (.iaload, 1) := by decide +kernel
theorem dX10_isInStand_15 : decode cX10_isInStand 15 = .ok (.aload_n 0, 1) := by decide +kernel
theorem dX10_isInStand_16 : decode cX10_isInStand 16 = .ok (.getfield 68, 3) := by decide +kernel
theorem dX10_isInStand_19 : decode cX10_isInStand 19 = .ok (.iconst 4, 1) := by decide +kernel
theorem dX10_isInStand_20 : decode cX10_isInStand 20 = .ok (.iload_n 1, 1) := by decide +kernel
theorem dX10_isInStand_21 : decode cX10_isInStand 21 = .ok (.imul, 1) := by decide +kernel
theorem dX10_isInStand_22 : decode cX10_isInStand 22 = .ok (.iconst 1, 1) := by decide +kernel
theorem dX10_isInStand_23 : decode cX10_isInStand 23 = .ok (.iadd, 1) := by decide +kernel
theorem dX10_isInStand_24 : decode cX10_isInStand 24 = .ok (.iaload, 1) := by decide +kernel
theorem dX10_isInStand_25 : decode cX10_isInStand 25 = .ok (.aload_n 0, 1) := by decide +kernel
theorem dX10_isInStand_26 : decode cX10_isInStand 26 = .ok (.getfield 68, 3) := by decide +kernel
theorem dX10_isInStand_29 : decode cX10_isInStand 29 = .ok (.iconst 4, 1) := by decide +kernel
theorem dX10_isInStand_30 : decode cX10_isInStand 30 = .ok (.iload_n 1, 1) := by decide +kernel
theorem dX10_isInStand_31 : decode cX10_isInStand 31 = .ok (.imul, 1) := by decide +kernel
theorem dX10_isInStand_32 : decode cX10_isInStand 32 = .ok (.iconst 2, 1) := by decide +kernel
theorem dX10_isInStand_33 : decode cX10_isInStand 33 = .ok (.iadd, 1) := by decide +kernel
theorem dX10_isInStand_34 : decode cX10_isInStand 34 = .ok (.iaload, 1) := by decide +kernel
theorem dX10_isInStand_35 : decode cX10_isInStand 35 = .ok (.aload_n 0, 1) := by decide +kernel
theorem dX10_isInStand_36 : decode cX10_isInStand 36 = .ok (.getfield 68, 3) := by decide +kernel
theorem dX10_isInStand_39 : decode cX10_isInStand 39 = .ok (.iconst 4, 1) := by decide +kernel
theorem dX10_isInStand_40 : decode cX10_isInStand 40 = .ok (.iload_n 1, 1) := by decide +kernel
theorem dX10_isInStand_41 : decode cX10_isInStand 41 = .ok (.imul, 1) := by decide +kernel
theorem dX10_isInStand_42 : decode cX10_isInStand 42 = .ok (.iconst 3, 1) := by decide +kernel
theorem dX10_isInStand_43 : decode cX10_isInStand 43 = .ok (.iadd, 1) := by decide +kernel
theorem dX10_isInStand_44 : decode cX10_isInStand 44 = .ok (.iaload, 1) := by decide +kernel
theorem dX10_isInStand_45 : decode cX10_isInStand 45 = .ok (.invokevirtual 145, 3) := by decide +kernel
theorem dX10_isInStand_48 : decode cX10_isInStand 48 = .ok (.ifCond .eq 7, 3) := by decide +kernel
theorem dX10_isInStand_51 : decode cX10_isInStand 51 = .ok (.iconst 1, 1) := by decide +kernel
theorem dX10_isInStand_52 : decode cX10_isInStand 52 = .ok (.goto 4, 3) := by decide +kernel
theorem dX10_isInStand_55 : decode cX10_isInStand 55 = .ok (.iconst 0, 1) := by decide +kernel
theorem dX10_isInStand_56 : decode cX10_isInStand 56 = .ok (.ireturn, 1) := by decide +kernel
theorem dX10_mayChange_0 : decode cX10_mayChange 0 = .ok (.iload_n 1, 1) := by decide +kernel
theorem dX10_mayChange_1 : decode cX10_mayChange 1 = .ok (.i2l, 1) := by decide +kernel
theorem dX10_mayChange_2 : decode cX10_mayChange 2 = .ok (.lconst 0, 1) := by decide +kernel
theorem dX10_mayChange_3 : decode cX10_mayChange 3 = .ok (.aload_n 0, 1) := by decide +kernel
theorem dX10_mayChange_4 : decode cX10_mayChange 4 = .ok (.getfield 272, 3) := by decide +kernel
theorem dX10_mayChange_7 : decode cX10_mayChange 7 = .ok (.iconst 1, 1) := by decide +kernel
theorem dX10_mayChange_8 : decode cX10_mayChange 8 = .ok (.isub, 1) := by decide +kernel
theorem dX10_mayChange_9 : decode cX10_mayChange 9 = .ok (.i2l, 1) := by decide +kernel
theorem dX10_mayChange_10 : decode cX10_mayChange 10 = .ok (.invokestatic 73, 3) := by decide +kernel
theorem dX10_mayChange_13 : decode cX10_mayChange 13 = .ok (.ifCond .ne 8, 3) := by decide +kernel
theorem dX10_mayChange_16 : decode cX10_mayChange 16 = .ok (.ldc 83, 2) := by decide +kernel
theorem dX10_mayChange_18 : decode cX10_mayChange 18 = .ok (.goto 16, 3) := by decide +kernel
theorem dX10_mayChange_21 : decode cX10_mayChange 21 = .ok (.iload_n 2, 1) := by decide +kernel
theorem dX10_mayChange_22 : decode cX10_mayChange 22 = .ok (.invokestatic 84, 3) := by decide +kernel
theorem dX10_mayChange_25 : decode cX10_mayChange 25 = .ok (.ifCond .eq 7, 3) := by decide +kernel
theorem dX10_mayChange_28 : decode cX10_mayChange 28 = .ok (.iconst 0, 1) := by decide +kernel
theorem dX10_mayChange_29 : decode cX10_mayChange 29 = .ok (.goto 5, 3) := by decide +kernel
theorem dX10_mayChange_32 : decode cX10_mayChange 32 = .ok (.ldc 89, 2) := by decide +kernel
theorem dX10_mayChange_34 : decode cX10_mayChange 34 = .ok (.ireturn, 1) := by decide +kernel
theorem dX10_changes_0 : decode cX10_changes 0 = .ok (.aload_n 0, 1) := by decide +kernel
theorem dX10_changes_1 : decode cX10_changes 1 = .ok (.iload_n 1, 1) := by decide +kernel
theorem dX10_changes_2 : decode cX10_changes 2 = .ok (.iload_n 2, 1) := by decide +kernel
theorem dX10_changes_3 : decode cX10_changes 3 = .ok (.invokevirtual 275, 3) := by decide +kernel
theorem dX10_changes_6 : decode cX10_changes 6 = .ok (.istore_n 3, 1) := by decide +kernel
theorem dX10_changes_7 : decode cX10_changes 7 = .ok (.iload_n 3, 1) := by decide +kernel
theorem dX10_changes_8 : decode cX10_changes 8 = .ok (.ifCond .ge 5, 3) := by decide +kernel
theorem dX10_changes_11 : decode cX10_changes 11 = .ok (.iload_n 3, 1) := by decide +kernel
theorem dX10_changes_12 : decode cX10_changes 12 = .ok (.ireturn, 1) := by decide +kernel
theorem dX10_changes_13 : decode cX10_changes 13 = .ok (.iconst 0, 1) := by decide +kernel
theorem dX10_changes_14 : decode cX10_changes 14 = .ok (.istore 4, 2) := by decide +kernel
theorem dX10_changes_16 : decode cX10_changes 16 = .ok (.iconst 0, 1) := by decide +kernel
theorem dX10_changes_17 : decode cX10_changes 17 = .ok (.istore 5, 2) := by decide +kernel
theorem dX10_changes_19 : decode cX10_changes 19 = .ok (.iload 5, 2) := by decide +kernel
theorem dX10_changes_21 : decode cX10_changes 21 = .ok (.bipush 10, 2) := by decide +kernel
theorem dX10_changes_23 : decode cX10_changes 23 = .ok (.if_icmp .ge 40, 3) := by decide +kernel
theorem dX10_changes_26 : decode cX10_changes 26 = .ok (.iload 4, 2) := by decide +kernel
theorem dX10_changes_28 : decode cX10_changes 28 = .ok (.aload_n 0, 1) := by decide +kernel
theorem dX10_changes_29 : decode cX10_changes 29 = .ok (.iload_n 1, 1) := by decide +kernel
theorem dX10_changes_30 : decode cX10_changes 30 = .ok (.iload 5, 2) := by decide +kernel
theorem dX10_changes_32 : decode cX10_changes 32 = .ok (.iload_n 2, 1) := by decide +kernel
theorem dX10_changes_33 : decode cX10_changes 33 = .ok (.invokevirtual 278, 3) := by decide +kernel
theorem dX10_changes_36 : decode cX10_changes 36 = .ok (.aload_n 0, 1) := by decide +kernel
theorem dX10_changes_37 : decode cX10_changes 37 = .ok (.iload_n 1, 1) := by decide +kernel
theorem dX10_changes_38 : decode cX10_changes 38 = .ok (.iload 5, 2) := by decide +kernel
theorem dX10_changes_40 : decode cX10_changes 40 = .ok (.iload_n 2, 1) := by decide +kernel
theorem dX10_changes_41 : decode cX10_changes 41 = .ok (.iconst 1, 1) := by decide +kernel
theorem dX10_changes_42 : decode cX10_changes 42 = .ok (.isub, 1) := by decide +kernel
theorem dX10_changes_43 : decode cX10_changes 43 = .ok (.invokevirtual 278, 3) := by decide +kernel
theorem dX10_changes_46 : decode cX10_changes 46 = .ok (.if_icmp .eq 7, 3) := by decide +kernel
theorem dX10_changes_49 : decode cX10_changes 49 = .ok (.iconst 1, 1) := by decide +kernel
theorem dX10_changes_50 : decode cX10_changes 50 = .ok (.goto 4, 3) := by decide +kernel
theorem dX10_changes_53 : decode cX10_changes 53 = .ok (.iconst 0, 1) := by decide +kernel
theorem dX10_changes_54 : decode cX10_changes 54 = .ok (.iadd, 1) := by decide +kernel
theorem dX10_changes_55 : decode cX10_changes 55 = .ok (.istore 4, 2) := by decide +kernel
theorem dX10_changes_57 : decode cX10_changes 57 = .ok (.iinc 5 1, 3) := by decide +kernel
theorem dX10_changes_60 : decode cX10_changes 60 = .ok (.goto (-41), 3) := by decide +kernel
theorem dX10_changes_63 : decode cX10_changes 63 = .ok (.iload 4, 2) := by decide +kernel
theorem dX10_changes_65 : decode cX10_changes 65 = .ok (.ireturn, 1) := by decide +kernel
theorem dX10_change_0 : decode cX10_change 0 = .ok (.aload_n 0, 1) := by decide +kernel
theorem dX10_change_1 : decode cX10_change 1 = .ok (.iload_n 1, 1) := by decide +kernel
theorem dX10_change_2 : decode cX10_change 2 = .ok (.iload_n 2, 1) := by decide +kernel
theorem dX10_change_3 : decode cX10_change 3 = .ok (.invokevirtual 275, 3) := by decide +kernel
theorem dX10_change_6 : decode cX10_change 6 = .ok (.istore 4, 2) := by decide +kernel
theorem dX10_change_8 : decode cX10_change 8 = .ok (.iload 4, 2) := by decide +kernel
theorem dX10_change_10 : decode cX10_change 10 = .ok (.ifCond .ge 6, 3) := by decide +kernel
theorem dX10_change_13 : decode cX10_change 13 = .ok (.iload 4, 2) := by decide +kernel
theorem dX10_change_15 : decode cX10_change 15 = .ok (.ireturn, 1) := by decide +kernel
theorem dX10_change_16 : decode cX10_change 16 = .ok (.iconst 0, 1) := by decide +kernel
theorem dX10_change_17 : decode cX10_change 17 = .ok (.istore 5, 2) := by decide +kernel
theorem dX10_change_19 : decode cX10_change 19 = .ok (.iconst 0, 1) := by decide +kernel
theorem dX10_change_20 : decode cX10_change 20 = .ok (.istore 6, 2) := by decide +kernel
theorem dX10_change_22 : decode cX10_change 22 = .ok (.iload 6, 2) := by decide +kernel
theorem dX10_change_24 : decode cX10_change 24 = .ok (.bipush 10, 2) := by decide +kernel
theorem dX10_change_26 : decode cX10_change 26 = .ok (.if_icmp .ge 59, 3) := by decide +kernel
theorem dX10_change_29 : decode cX10_change 29 = .ok (.aload_n 0, 1) := by decide +kernel
theorem dX10_change_30 : decode cX10_change 30 = .ok (.iload_n 1, 1) := by decide +kernel
theorem dX10_change_31 : decode cX10_change 31 = .ok (.iload 6, 2) := by decide +kernel
theorem dX10_change_33 : decode cX10_change 33 = .ok (.iload_n 2, 1) := by decide +kernel
theorem dX10_change_34 : decode cX10_change 34 = .ok (.invokevirtual 278, 3) := by decide +kernel
theorem dX10_change_37 : decode cX10_change 37 = .ok (.istore 7, 2) := by decide +kernel
theorem dX10_change_39 : decode cX10_change 39 = .ok (.iload 7, 2) := by decide +kernel
theorem dX10_change_41 : decode cX10_change 41 = .ok (.aload_n 0, 1) := by decide +kernel
theorem dX10_change_42 : decode cX10_change 42 = .ok (.iload_n 1, 1) := by decide +kernel
theorem dX10_change_43 : decode cX10_change 43 = .ok (.iload 6, 2) := by decide +kernel
theorem dX10_change_45 : decode cX10_change 45 = .ok (.iload_n 2, 1) := by decide +kernel
theorem dX10_change_46 : decode cX10_change 46 = .ok (.iconst 1, 1) := by decide +kernel
theorem dX10_change_47 : decode cX10_change 47 = .ok (.isub, 1) := by decide +kernel
theorem dX10_change_48 : decode cX10_change 48 = .ok (.invokevirtual 278, 3) := by decide +kernel
theorem dX10_change_51 : decode cX10_change 51 = .ok (.if_icmp .eq 28, 3) := by decide +kernel
theorem dX10_change_54 : decode cX10_change 54 = .ok (.iload 5, 2) := by decide +kernel
theorem dX10_change_56 : decode cX10_change 56 = .ok (.iload_n 3, 1) := by decide +kernel
theorem dX10_change_57 : decode cX10_change 57 = .ok (.if_icmp .ne 19, 3) := by decide +kernel
theorem dX10_change_60 : decode cX10_change 60 = .ok (.iload 7, 2) := by decide +kernel
theorem dX10_change_62 : decode cX10_change 62 = .ok (.ifCond .eq 11, 3) := by decide +kernel
theorem dX10_change_65 : decode cX10_change 65 = .ok (.bipush 100, 2) := by decide +kernel
theorem dX10_change_67 : decode cX10_change 67 = .ok (.iload 6, 2) := by decide +kernel
theorem dX10_change_69 : decode cX10_change 69 = .ok (.iadd, 1) := by decide +kernel
theorem dX10_change_70 : decode cX10_change 70 = .ok (.goto 5, 3) := by decide +kernel
theorem dX10_change_73 : decode cX10_change 73 = .ok (.iload 6, 2) := by decide +kernel
theorem dX10_change_75 : decode cX10_change 75 = .ok (.ireturn, 1) := by decide +kernel
theorem dX10_change_76 : decode cX10_change 76 = .ok (.iinc 5 1, 3) := by decide +kernel
theorem dX10_change_79 : decode cX10_change 79 = .ok (.iinc 6 1, 3) := by decide +kernel
theorem dX10_change_82 : decode cX10_change 82 = .ok (.goto (-60), 3) := by decide +kernel
theorem dX10_change_85 : decode cX10_change 85 = .ok (.ldc 149, 2) := by decide +kernel
theorem dX10_change_87 : decode cX10_change 87 = .ok (.ireturn, 1) := by decide +kernel
theorem dX10_still_0 : decode cX10_still 0 = .ok (.iload_n 1, 1) := by decide +kernel
theorem dX10_still_1 : decode cX10_still 1 = .ok (.i2l, 1) := by decide +kernel
theorem dX10_still_2 : decode cX10_still 2 = .ok (.lconst 0, 1) := by decide +kernel
theorem dX10_still_3 : decode cX10_still 3 = .ok (.aload_n 0, 1) := by decide +kernel
theorem dX10_still_4 : decode cX10_still 4 = .ok (.getfield 272, 3) := by decide +kernel
theorem dX10_still_7 : decode cX10_still 7 = .ok (.iconst 1, 1) := by decide +kernel
theorem dX10_still_8 : decode cX10_still 8 = .ok (.isub, 1) := by decide +kernel
theorem dX10_still_9 : decode cX10_still 9 = .ok (.i2l, 1) := by decide +kernel
theorem dX10_still_10 : decode cX10_still 10 = .ok (.invokestatic 73, 3) := by decide +kernel
theorem dX10_still_13 : decode cX10_still 13 = .ok (.ifCond .eq 10, 3) := by decide +kernel
theorem dX10_still_16 : decode cX10_still 16 = .ok (.iload_n 2, 1) := by decide +kernel
theorem dX10_still_17 : decode cX10_still 17 = .ok (.invokestatic 79, 3) := by decide +kernel
theorem dX10_still_20 : decode cX10_still 20 = .ok (.ifCond .ne 6, 3) := by decide +kernel
theorem dX10_still_23 : decode cX10_still 23 = .ok (.ldc 83, 2) := by decide +kernel
theorem dX10_still_25 : decode cX10_still 25 = .ok (.ireturn, 1) := by decide +kernel
theorem dX10_still_26 : decode cX10_still 26 = .ok (.aload_n 0, 1) := by decide +kernel
theorem dX10_still_27 : decode cX10_still 27 = .ok (.iload_n 1, 1) := by decide +kernel
theorem dX10_still_28 : decode cX10_still 28 = .ok (.iload_n 2, 1) := by decide +kernel
theorem dX10_still_29 : decode cX10_still 29 = .ok (.aload_n 0, 1) := by decide +kernel
theorem dX10_still_30 : decode cX10_still 30 = .ok (.getfield 269, 3) := by decide +kernel
theorem dX10_still_33 : decode cX10_still 33 = .ok (.invokevirtual 278, 3) := by decide +kernel
theorem dX10_still_36 : decode cX10_still 36 = .ok (.istore_n 3, 1) := by decide +kernel
theorem dX10_still_37 : decode cX10_still 37 = .ok (.aload_n 0, 1) := by decide +kernel
theorem dX10_still_38 : decode cX10_still 38 = .ok (.getfield 269, 3) := by decide +kernel
theorem dX10_still_41 : decode cX10_still 41 = .ok (.iconst 1, 1) := by decide +kernel
theorem dX10_still_42 : decode cX10_still 42 = .ok (.iadd, 1) := by decide +kernel
theorem dX10_still_43 : decode cX10_still 43 = .ok (.istore 4, 2) := by decide +kernel
theorem dX10_still_45 : decode cX10_still 45 = .ok (.iload 4, 2) := by decide +kernel
theorem dX10_still_47 : decode cX10_still 47 = .ok (.sipush 200, 3) := by decide +kernel
theorem dX10_still_50 : decode cX10_still 50 = .ok (.if_icmp .ge 21, 3) := by decide +kernel
theorem dX10_still_53 : decode cX10_still 53 = .ok (.aload_n 0, 1) := by decide +kernel
theorem dX10_still_54 : decode cX10_still 54 = .ok (.iload_n 1, 1) := by decide +kernel
theorem dX10_still_55 : decode cX10_still 55 = .ok (.iload_n 2, 1) := by decide +kernel
theorem dX10_still_56 : decode cX10_still 56 = .ok (.iload 4, 2) := by decide +kernel
theorem dX10_still_58 : decode cX10_still 58 = .ok (.invokevirtual 278, 3) := by decide +kernel
theorem dX10_still_61 : decode cX10_still 61 = .ok (.iload_n 3, 1) := by decide +kernel
theorem dX10_still_62 : decode cX10_still 62 = .ok (.if_icmp .ne 9, 3) := by decide +kernel
theorem dX10_still_65 : decode cX10_still 65 = .ok (.iinc 4 1, 3) := by decide +kernel
theorem dX10_still_68 : decode cX10_still 68 = .ok (.goto (-23), 3) := by decide +kernel
theorem dX10_still_71 : decode cX10_still 71 = .ok (.iload 4, 2) := by decide +kernel
theorem dX10_still_73 : decode cX10_still 73 = .ok (.iconst 1, 1) := by decide +kernel
theorem dX10_still_74 : decode cX10_still 74 = .ok (.isub, 1) := by decide +kernel
theorem dX10_still_75 : decode cX10_still 75 = .ok (.aload_n 0, 1) := by decide +kernel
theorem dX10_still_76 : decode cX10_still 76 = .ok (.getfield 269, 3) := by decide +kernel
theorem dX10_still_79 : decode cX10_still 79 = .ok (.isub, 1) := by decide +kernel
theorem dX10_still_80 : decode cX10_still 80 = .ok (.ireturn, 1) := by decide +kernel
theorem dX10_loadOf_0 : decode cX10_loadOf 0 = .ok (.iconst 0, 1) := by decide +kernel
theorem dX10_loadOf_1 : decode cX10_loadOf 1 = .ok (.istore_n 2, 1) := by decide +kernel
theorem dX10_loadOf_2 : decode cX10_loadOf 2 = .ok (.iconst 0, 1) := by decide +kernel
theorem dX10_loadOf_3 : decode cX10_loadOf 3 = .ok (.istore_n 3, 1) := by decide +kernel
theorem dX10_loadOf_4 : decode cX10_loadOf 4 = .ok (.iload_n 3, 1) := by decide +kernel
theorem dX10_loadOf_5 : decode cX10_loadOf 5 = .ok (.bipush 10, 2) := by decide +kernel
theorem dX10_loadOf_7 : decode cX10_loadOf 7 = .ok (.if_icmp .ge 56, 3) := by decide +kernel
theorem dX10_loadOf_10 : decode cX10_loadOf 10 = .ok (.iconst 0, 1) := by decide +kernel
theorem dX10_loadOf_11 : decode cX10_loadOf 11 = .ok (.istore 4, 2) := by decide +kernel
theorem dX10_loadOf_13 : decode cX10_loadOf 13 = .ok (.iload 4, 2) := by decide +kernel
theorem dX10_loadOf_15 : decode cX10_loadOf 15 = .ok (.aload_n 0, 1) := by decide +kernel
theorem dX10_loadOf_16 : decode cX10_loadOf 16 = .ok (.getfield 7, 3) := by decide +kernel
theorem dX10_loadOf_19 : decode cX10_loadOf 19 = .ok (.iload_n 3, 1) := by decide +kernel
theorem dX10_loadOf_20 : decode cX10_loadOf 20 = .ok (.iaload, 1) := by decide +kernel
theorem dX10_loadOf_21 : decode cX10_loadOf 21 = .ok (.if_icmp .ge 36, 3) := by decide +kernel
theorem dX10_loadOf_24 : decode cX10_loadOf 24 = .ok (.iload_n 2, 1) := by decide +kernel
theorem dX10_loadOf_25 : decode cX10_loadOf 25 = .ok (.aload_n 0, 1) := by decide +kernel
theorem dX10_loadOf_26 : decode cX10_loadOf 26 = .ok (.getfield 16, 3) := by decide +kernel
theorem dX10_loadOf_29 : decode cX10_loadOf 29 = .ok (.bipush 24, 2) := by decide +kernel
theorem dX10_loadOf_31 : decode cX10_loadOf 31 = .ok (.iload_n 3, 1) := by decide +kernel
theorem dX10_loadOf_32 : decode cX10_loadOf 32 = .ok (.imul, 1) := by decide +kernel
theorem dX10_loadOf_33 : decode cX10_loadOf 33 = .ok (.iload 4, 2) := by decide +kernel
theorem dX10_loadOf_35 : decode cX10_loadOf 35 = .ok (.iadd, 1) := by decide +kernel
theorem dX10_loadOf_36 : decode cX10_loadOf 36 = .ok (.iaload, 1) := by decide +kernel
theorem dX10_loadOf_37 : decode cX10_loadOf 37 = .ok (.bipush 10, 2) := by decide +kernel
theorem dX10_loadOf_39 : decode cX10_loadOf 39 = .ok (.idiv, 1) := by decide +kernel
theorem dX10_loadOf_40 : decode cX10_loadOf 40 = .ok (.iload_n 1, 1) := by decide +kernel
theorem dX10_loadOf_41 : decode cX10_loadOf 41 = .ok (.if_icmp .ne 7, 3) := by decide +kernel
theorem dX10_loadOf_44 : decode cX10_loadOf 44 = .ok (.iconst 1, 1) := by decide +kernel
theorem dX10_loadOf_45 : decode cX10_loadOf 45 = .ok (.goto 4, 3) := by decide +kernel
theorem dX10_loadOf_48 : decode cX10_loadOf 48 = .ok (.iconst 0, 1) := by decide +kernel
theorem dX10_loadOf_49 : decode cX10_loadOf 49 = .ok (.iadd, 1) := by decide +kernel
theorem dX10_loadOf_50 : decode cX10_loadOf 50 = .ok (.istore_n 2, 1) := by decide +kernel
theorem dX10_loadOf_51 : decode cX10_loadOf 51 = .ok (.iinc 4 1, 3) := by decide +kernel
theorem dX10_loadOf_54 : decode cX10_loadOf 54 = .ok (.goto (-41), 3) := by decide +kernel
theorem dX10_loadOf_57 : decode cX10_loadOf 57 = .ok (.iinc 3 1, 3) := by decide +kernel
theorem dX10_loadOf_60 : decode cX10_loadOf 60 = .ok (.goto (-56), 3) := by decide +kernel
theorem dX10_loadOf_63 : decode cX10_loadOf 63 = .ok (.iload_n 2, 1) := by decide +kernel
theorem dX10_loadOf_64 : decode cX10_loadOf 64 = .ok (.ireturn, 1) := by decide +kernel
theorem dX10_load_0 : decode cX10_load 0 = .ok (.iload_n 1, 1) := by decide +kernel
theorem dX10_load_1 : decode cX10_load 1 = .ok (.i2l, 1) := by decide +kernel
theorem dX10_load_2 : decode cX10_load 2 = .ok (.lconst 0, 1) := by decide +kernel
theorem dX10_load_3 : decode cX10_load 3 = .ok (.ldc2_w 71, 3) := by decide +kernel
theorem dX10_load_6 : decode cX10_load 6 = .ok (.invokestatic 73, 3) := by decide +kernel
theorem dX10_load_9 : decode cX10_load 9 = .ok (.ifCond .eq 11, 3) := by decide +kernel
theorem dX10_load_12 : decode cX10_load 12 = .ok (.aload_n 0, 1) := by decide +kernel
theorem dX10_load_13 : decode cX10_load 13 = .ok (.iload_n 1, 1) := by decide +kernel
theorem dX10_load_14 : decode cX10_load 14 = .ok (.invokevirtual 281, 3) := by decide +kernel
theorem dX10_load_17 : decode cX10_load 17 = .ok (.goto 5, 3) := by decide +kernel
theorem dX10_load_20 : decode cX10_load 20 = .ok (.ldc 89, 2) := by decide +kernel
theorem dX10_load_22 : decode cX10_load 22 = .ok (.ireturn, 1) := by decide +kernel
theorem dX10_machinesFor_0 : decode cX10_machinesFor 0 = .ok (.iconst 0, 1) := by decide +kernel
theorem dX10_machinesFor_1 : decode cX10_machinesFor 1 = .ok (.istore_n 3, 1) := by decide +kernel
theorem dX10_machinesFor_2 : decode cX10_machinesFor 2 = .ok (.iconst 0, 1) := by decide +kernel
theorem dX10_machinesFor_3 : decode cX10_machinesFor 3 = .ok (.istore 4, 2) := by decide +kernel
theorem dX10_machinesFor_5 : decode cX10_machinesFor 5 = .ok (.iload_n 1, 1) := by decide +kernel
theorem dX10_machinesFor_6 : decode cX10_machinesFor 6 = .ok (.istore 5, 2) := by decide +kernel
theorem dX10_machinesFor_8 : decode cX10_machinesFor 8 = .ok (.iload 5, 2) := by decide +kernel
theorem dX10_machinesFor_10 : decode cX10_machinesFor 10 = .ok (.bipush 10, 2) := by decide +kernel
theorem dX10_machinesFor_12 : decode cX10_machinesFor 12 = .ok (.if_icmp .ge 77, 3) := by decide +kernel
theorem dX10_machinesFor_15 : decode cX10_machinesFor 15 = .ok (.aload_n 0, 1) := by decide +kernel
theorem dX10_machinesFor_16 : decode cX10_machinesFor 16 = .ok (.iload 5, 2) := by decide +kernel
theorem dX10_machinesFor_18 : decode cX10_machinesFor 18 = .ok (.invokevirtual 281, 3) := by decide +kernel
theorem dX10_machinesFor_21 : decode cX10_machinesFor 21 = .ok (.istore 6, 2) := by decide +kernel
theorem dX10_machinesFor_23 : decode cX10_machinesFor 23 = .ok (.iload 6, 2) := by decide +kernel
theorem dX10_machinesFor_25 : decode cX10_machinesFor 25 = .ok (.iload_n 2, 1) := by decide +kernel
theorem dX10_machinesFor_26 : decode cX10_machinesFor 26 = .ok (.if_icmp .le 6, 3) := by decide +kernel
theorem dX10_machinesFor_29 : decode cX10_machinesFor 29 = .ok (.ldc 224, 2) := by decide +kernel
theorem dX10_machinesFor_31 : decode cX10_machinesFor 31 = .ok (.ireturn, 1) := by decide +kernel
theorem dX10_machinesFor_32 : decode cX10_machinesFor 32 = .ok (.iload_n 3, 1) := by decide +kernel
theorem dX10_machinesFor_33 : decode cX10_machinesFor 33 = .ok (.iload_n 3, 1) := by decide +kernel
theorem dX10_machinesFor_34 : decode cX10_machinesFor 34 = .ok (.ifCond .eq 10, 3) := by decide +kernel
theorem dX10_machinesFor_37 : decode cX10_machinesFor 37 = .ok (.iload 6, 2) := by decide +kernel
theorem dX10_machinesFor_39 : decode cX10_machinesFor 39 = .ok (.iload 4, 2) := by decide +kernel
theorem dX10_machinesFor_41 : decode cX10_machinesFor 41 = .ok (.if_icmp .le 7, 3) := by decide +kernel
theorem dX10_machinesFor_44 : decode cX10_machinesFor 44 = .ok (.iconst 1, 1) := by decide +kernel
theorem dX10_machinesFor_45 : decode cX10_machinesFor 45 = .ok (.goto 4, 3) := by decide +kernel
theorem dX10_machinesFor_48 : decode cX10_machinesFor 48 = .ok (.iconst 0, 1) := by decide +kernel
theorem dX10_machinesFor_49 : decode cX10_machinesFor 49 = .ok (.iadd, 1) := by decide +kernel
theorem dX10_machinesFor_50 : decode cX10_machinesFor 50 = .ok (.istore_n 3, 1) := by decide +kernel
theorem dX10_machinesFor_51 : decode cX10_machinesFor 51 = .ok (.iload_n 3, 1) := by decide +kernel
theorem dX10_machinesFor_52 : decode cX10_machinesFor 52 = .ok (.iconst 1, 1) := by decide +kernel
theorem dX10_machinesFor_53 : decode cX10_machinesFor 53 = .ok (.if_icmp .ne 9, 3) := by decide +kernel
theorem dX10_machinesFor_56 : decode cX10_machinesFor 56 = .ok (.iload 5, 2) := by decide +kernel
theorem dX10_machinesFor_58 : decode cX10_machinesFor 58 = .ok (.iload_n 1, 1) := by decide +kernel
theorem dX10_machinesFor_59 : decode cX10_machinesFor 59 = .ok (.if_icmp .eq 10, 3) := by decide +kernel
theorem dX10_machinesFor_62 : decode cX10_machinesFor 62 = .ok (.iload 6, 2) := by decide +kernel
theorem dX10_machinesFor_64 : decode cX10_machinesFor 64 = .ok (.iload 4, 2) := by decide +kernel
theorem dX10_machinesFor_66 : decode cX10_machinesFor 66 = .ok (.if_icmp .le 10, 3) := by decide +kernel
theorem dX10_machinesFor_69 : decode cX10_machinesFor 69 = .ok (.iload_n 2, 1) := by decide +kernel
theorem dX10_machinesFor_70 : decode cX10_machinesFor 70 = .ok (.iload 6, 2) := by decide +kernel
theorem dX10_machinesFor_72 : decode cX10_machinesFor 72 = .ok (.isub, 1) := by decide +kernel
theorem dX10_machinesFor_73 : decode cX10_machinesFor 73 = .ok (.goto 8, 3) := by decide +kernel
theorem dX10_machinesFor_76 : decode cX10_machinesFor 76 = .ok (.iload 4, 2) := by decide +kernel
theorem dX10_machinesFor_78 : decode cX10_machinesFor 78 = .ok (.iload 6, 2) := by decide +kernel
theorem dX10_machinesFor_80 : decode cX10_machinesFor 80 = .ok (.isub, 1) := by decide +kernel
theorem dX10_machinesFor_81 : decode cX10_machinesFor 81 = .ok (.istore 4, 2) := by decide +kernel
theorem dX10_machinesFor_83 : decode cX10_machinesFor 83 = .ok (.iinc 5 1, 3) := by decide +kernel
theorem dX10_machinesFor_86 : decode cX10_machinesFor 86 = .ok (.goto (-78), 3) := by decide +kernel
theorem dX10_machinesFor_89 : decode cX10_machinesFor 89 = .ok (.iload_n 3, 1) := by decide +kernel
theorem dX10_machinesFor_90 : decode cX10_machinesFor 90 = .ok (.ireturn, 1) := by decide +kernel
theorem dX10_bestLoad_0 : decode cX10_bestLoad 0 = .ok (.iconst 0, 1) := by decide +kernel
theorem dX10_bestLoad_1 : decode cX10_bestLoad 1 = .ok (.istore_n 2, 1) := by decide +kernel
theorem dX10_bestLoad_2 : decode cX10_bestLoad 2 = .ok (.aload_n 0, 1) := by decide +kernel
theorem dX10_bestLoad_3 : decode cX10_bestLoad 3 = .ok (.iconst 0, 1) := by decide +kernel
theorem dX10_bestLoad_4 : decode cX10_bestLoad 4 = .ok (.iload_n 2, 1) := by decide +kernel
theorem dX10_bestLoad_5 : decode cX10_bestLoad 5 = .ok (.invokevirtual 284, 3) := by decide +kernel
theorem dX10_bestLoad_8 : decode cX10_bestLoad 8 = .ok (.iload_n 1, 1) := by decide +kernel
theorem dX10_bestLoad_9 : decode cX10_bestLoad 9 = .ok (.if_icmp .le 9, 3) := by decide +kernel
theorem dX10_bestLoad_12 : decode cX10_bestLoad 12 = .ok (.iinc 2 1, 3) := by decide +kernel
theorem dX10_bestLoad_15 : decode cX10_bestLoad 15 = .ok (.goto (-13), 3) := by decide +kernel
theorem dX10_bestLoad_18 : decode cX10_bestLoad 18 = .ok (.iload_n 2, 1) := by decide +kernel
theorem dX10_bestLoad_19 : decode cX10_bestLoad 19 = .ok (.ireturn, 1) := by decide +kernel
theorem dX10_share_0 : decode cX10_share 0 = .ok (.iload_n 1, 1) := by decide +kernel
theorem dX10_share_1 : decode cX10_share 1 = .ok (.i2l, 1) := by decide +kernel
theorem dX10_share_2 : decode cX10_share 2 = .ok (.lconst 1, 1) := by decide +kernel
theorem dX10_share_3 : decode cX10_share 3 = .ok (.ldc2_w 287, 3) := by decide +kernel
theorem dX10_share_6 : decode cX10_share 6 = .ok (.invokestatic 73, 3) := by decide +kernel
theorem dX10_share_9 : decode cX10_share 9 = .ok (.ifCond .eq 11, 3) := by decide +kernel
theorem dX10_share_12 : decode cX10_share 12 = .ok (.aload_n 0, 1) := by decide +kernel
theorem dX10_share_13 : decode cX10_share 13 = .ok (.iload_n 1, 1) := by decide +kernel
theorem dX10_share_14 : decode cX10_share 14 = .ok (.invokevirtual 289, 3) := by decide +kernel
theorem dX10_share_17 : decode cX10_share 17 = .ok (.goto 5, 3) := by decide +kernel
theorem dX10_share_20 : decode cX10_share 20 = .ok (.ldc 89, 2) := by decide +kernel
theorem dX10_share_22 : decode cX10_share 22 = .ok (.ireturn, 1) := by decide +kernel
theorem dX10_gets_0 : decode cX10_gets 0 = .ok (.iload_n 1, 1) := by decide +kernel
theorem dX10_gets_1 : decode cX10_gets 1 = .ok (.i2l, 1) := by decide +kernel
theorem dX10_gets_2 : decode cX10_gets 2 = .ok (.lconst 1, 1) := by decide +kernel
theorem dX10_gets_3 : decode cX10_gets 3 = .ok (.ldc2_w 287, 3) := by decide +kernel
theorem dX10_gets_6 : decode cX10_gets 6 = .ok (.invokestatic 73, 3) := by decide +kernel
theorem dX10_gets_9 : decode cX10_gets 9 = .ok (.ifCond .eq 16, 3) := by decide +kernel
theorem dX10_gets_12 : decode cX10_gets 12 = .ok (.iload_n 2, 1) := by decide +kernel
theorem dX10_gets_13 : decode cX10_gets 13 = .ok (.i2l, 1) := by decide +kernel
theorem dX10_gets_14 : decode cX10_gets 14 = .ok (.lconst 0, 1) := by decide +kernel
theorem dX10_gets_15 : decode cX10_gets 15 = .ok (.iload_n 1, 1) := by decide +kernel
theorem dX10_gets_16 : decode cX10_gets 16 = .ok (.iconst 1, 1) := by decide +kernel
theorem dX10_gets_17 : decode cX10_gets 17 = .ok (.isub, 1) := by decide +kernel
theorem dX10_gets_18 : decode cX10_gets 18 = .ok (.i2l, 1) := by decide +kernel
theorem dX10_gets_19 : decode cX10_gets 19 = .ok (.invokestatic 73, 3) := by decide +kernel
theorem dX10_gets_22 : decode cX10_gets 22 = .ok (.ifCond .ne 6, 3) := by decide +kernel
theorem dX10_gets_25 : decode cX10_gets 25 = .ok (.ldc 89, 2) := by decide +kernel
theorem dX10_gets_27 : decode cX10_gets 27 = .ok (.ireturn, 1) := by decide +kernel
theorem dX10_gets_28 : decode cX10_gets 28 = .ok (.aload_n 0, 1) := by decide +kernel
theorem dX10_gets_29 : decode cX10_gets 29 = .ok (.iload_n 1, 1) := by decide +kernel
theorem dX10_gets_30 : decode cX10_gets 30 = .ok (.invokevirtual 289, 3) := by decide +kernel
theorem dX10_gets_33 : decode cX10_gets 33 = .ok (.istore_n 3, 1) := by decide +kernel
theorem dX10_gets_34 : decode cX10_gets 34 = .ok (.iconst 0, 1) := by decide +kernel
theorem dX10_gets_35 : decode cX10_gets 35 = .ok (.istore 4, 2) := by decide +kernel
theorem dX10_gets_37 : decode cX10_gets 37 = .ok (.iconst 0, 1) := by decide +kernel
theorem dX10_gets_38 : decode cX10_gets 38 = .ok (.istore 5, 2) := by decide +kernel
theorem dX10_gets_40 : decode cX10_gets 40 = .ok (.iconst 0, 1) := by decide +kernel
theorem dX10_gets_41 : decode cX10_gets 41 = .ok (.istore 6, 2) := by decide +kernel
theorem dX10_gets_43 : decode cX10_gets 43 = .ok (.iload 6, 2) := by decide +kernel
theorem dX10_gets_45 : decode cX10_gets 45 = .ok (.iload_n 2, 1) := by decide +kernel
theorem dX10_gets_46 : decode cX10_gets 46 = .ok (.if_icmp .gt 44, 3) := by decide +kernel
theorem dX10_gets_49 : decode cX10_gets 49 = .ok (.iconst 0, 1) := by decide +kernel
theorem dX10_gets_50 : decode cX10_gets 50 = .ok (.istore 5, 2) := by decide +kernel
theorem dX10_gets_52 : decode cX10_gets 52 = .ok (.aload_n 0, 1) := by decide +kernel
theorem dX10_gets_53 : decode cX10_gets 53 = .ok (.iload 4, 2) := by decide +kernel
theorem dX10_gets_55 : decode cX10_gets 55 = .ok (.iload 5, 2) := by decide +kernel
theorem dX10_gets_57 : decode cX10_gets 57 = .ok (.iadd, 1) := by decide +kernel
theorem dX10_gets_58 : decode cX10_gets 58 = .ok (.iload_n 3, 1) := by decide +kernel
theorem dX10_gets_59 : decode cX10_gets 59 = .ok (.invokevirtual 284, 3) := by decide +kernel
theorem dX10_gets_62 : decode cX10_gets 62 = .ok (.iload_n 1, 1) := by decide +kernel
theorem dX10_gets_63 : decode cX10_gets 63 = .ok (.iconst 1, 1) := by decide +kernel
theorem dX10_gets_64 : decode cX10_gets 64 = .ok (.isub, 1) := by decide +kernel
theorem dX10_gets_65 : decode cX10_gets 65 = .ok (.iload 6, 2) := by decide +kernel
theorem dX10_gets_67 : decode cX10_gets 67 = .ok (.isub, 1) := by decide +kernel
theorem dX10_gets_68 : decode cX10_gets 68 = .ok (.if_icmp .le 9, 3) := by decide +kernel
theorem dX10_gets_71 : decode cX10_gets 71 = .ok (.iinc 5 1, 3) := by decide +kernel
theorem dX10_gets_74 : decode cX10_gets 74 = .ok (.goto (-22), 3) := by decide +kernel
theorem dX10_gets_77 : decode cX10_gets 77 = .ok (.iload 4, 2) := by decide +kernel
theorem dX10_gets_79 : decode cX10_gets 79 = .ok (.iload 5, 2) := by decide +kernel
theorem dX10_gets_81 : decode cX10_gets 81 = .ok (.iadd, 1) := by decide +kernel
theorem dX10_gets_82 : decode cX10_gets 82 = .ok (.istore 4, 2) := by decide +kernel
theorem dX10_gets_84 : decode cX10_gets 84 = .ok (.iinc 6 1, 3) := by decide +kernel
theorem dX10_gets_87 : decode cX10_gets 87 = .ok (.goto (-44), 3) := by decide +kernel
theorem dX10_gets_90 : decode cX10_gets 90 = .ok (.iload 5, 2) := by decide +kernel
theorem dX10_gets_92 : decode cX10_gets 92 = .ok (.ireturn, 1) := by decide +kernel
theorem dX10_isBlur_0 : decode cX10_isBlur 0 = .ok (.iload_n 0, 1) := by decide +kernel
theorem dX10_isBlur_1 : decode cX10_isBlur 1 = .ok (.i2l, 1) := by decide +kernel
theorem dX10_isBlur_2 : decode cX10_isBlur 2 = .ok (.lconst 1, 1) := by decide +kernel
theorem dX10_isBlur_3 : decode cX10_isBlur 3 = .ok (.ldc2_w 292, 3) := by decide +kernel
theorem dX10_isBlur_6 : decode cX10_isBlur 6 = .ok (.invokestatic 73, 3) := by decide +kernel
theorem dX10_isBlur_9 : decode cX10_isBlur 9 = .ok (.ifCond .eq 20, 3) := by decide +kernel
theorem dX10_isBlur_12 : decode cX10_isBlur 12 = .ok (.iload_n 1, 1) := by decide +kernel
theorem dX10_isBlur_13 : decode cX10_isBlur 13 = .ok (.i2l, 1) := by decide +kernel
theorem dX10_isBlur_14 : decode cX10_isBlur 14 = .ok (.lconst 0, 1) := by decide +kernel
theorem dX10_isBlur_15 : decode cX10_isBlur 15 = .ok (.iload_n 0, 1) := by decide +kernel
theorem dX10_isBlur_16 : decode cX10_isBlur 16 = .ok (.iconst 1, 1) := by decide +kernel
theorem dX10_isBlur_17 : decode cX10_isBlur 17 = .ok (.isub, 1) := by decide +kernel
theorem dX10_isBlur_18 : decode cX10_isBlur 18 = .ok (.i2l, 1) := by decide +kernel
theorem dX10_isBlur_19 : decode cX10_isBlur 19 = .ok (.invokestatic 73, 3) := by decide +kernel
theorem dX10_isBlur_22 : decode cX10_isBlur 22 = .ok (.ifCond .eq 7, 3) := by decide +kernel
theorem dX10_isBlur_25 : decode cX10_isBlur 25 = .ok (.iconst 1, 1) := by decide +kernel
theorem dX10_isBlur_26 : decode cX10_isBlur 26 = .ok (.goto 4, 3) := by decide +kernel
theorem dX10_isBlur_29 : decode cX10_isBlur 29 = .ok (.iconst 0, 1) := by decide +kernel
theorem dX10_isBlur_30 : decode cX10_isBlur 30 = .ok (.ireturn, 1) := by decide +kernel
theorem dX10_blur_0 : decode cX10_blur 0 = .ok (.aload_n 0, 1) := by decide +kernel
theorem dX10_blur_1 : decode cX10_blur 1 = .ok (.iload_n 1, 1) := by decide +kernel
theorem dX10_blur_2 : decode cX10_blur 2 = .ok (.iload_n 2, 1) := by decide +kernel
theorem dX10_blur_3 : decode cX10_blur 3 = .ok (.invokevirtual 99, 3) := by decide +kernel
theorem dX10_blur_6 : decode cX10_blur 6 = .ok (.ifCond .ne 6, 3) := by decide +kernel
theorem dX10_blur_9 : decode cX10_blur 9 = .ok (.ldc 83, 2) := by decide +kernel
theorem dX10_blur_11 : decode cX10_blur 11 = .ok (.ireturn, 1) := by decide +kernel
theorem dX10_blur_12 : decode cX10_blur 12 = .ok (.iload_n 3, 1) := by decide +kernel
theorem dX10_blur_13 : decode cX10_blur 13 = .ok (.iload 4, 2) := by decide +kernel
theorem dX10_blur_15 : decode cX10_blur 15 = .ok (.invokestatic 294, 3) := by decide +kernel
theorem dX10_blur_18 : decode cX10_blur 18 = .ok (.ifCond .eq 41, 3) := by decide +kernel
theorem dX10_blur_21 : decode cX10_blur 21 = .ok (.iload 5, 2) := by decide +kernel
theorem dX10_blur_23 : decode cX10_blur 23 = .ok (.ifCond .eq 17, 3) := by decide +kernel
theorem dX10_blur_26 : decode cX10_blur 26 = .ok (.aload_n 0, 1) := by decide +kernel
theorem dX10_blur_27 : decode cX10_blur 27 = .ok (.getfield 19, 3) := by decide +kernel
theorem dX10_blur_30 : decode cX10_blur 30 = .ok (.bipush 24, 2) := by decide +kernel
theorem dX10_blur_32 : decode cX10_blur 32 = .ok (.iload_n 1, 1) := by decide +kernel
theorem dX10_blur_33 : decode cX10_blur 33 = .ok (.imul, 1) := by decide +kernel
theorem dX10_blur_34 : decode cX10_blur 34 = .ok (.iload_n 2, 1) := by decide +kernel
theorem dX10_blur_35 : decode cX10_blur 35 = .ok (.iadd, 1) := by decide +kernel
theorem dX10_blur_36 : decode cX10_blur 36 = .ok (.iaload, 1) := by decide +kernel
theorem dX10_blur_37 : decode cX10_blur 37 = .ok (.goto 14, 3) := by decide +kernel
theorem dX10_blur_40 : decode cX10_blur 40 = .ok (.aload_n 0, 1) := by decide +kernel
theorem dX10_blur_41 : decode cX10_blur 41 = .ok (.getfield 16, 3) := by decide +kernel
theorem dX10_blur_44 : decode cX10_blur 44 = .ok (.bipush 24, 2) := by decide +kernel
theorem dX10_blur_46 : decode cX10_blur 46 = .ok (.iload_n 1, 1) := by decide +kernel
theorem dX10_blur_47 : decode cX10_blur 47 = .ok (.imul, 1) := by decide +kernel
theorem dX10_blur_48 : decode cX10_blur 48 = .ok (.iload_n 2, 1) := by decide +kernel
theorem dX10_blur_49 : decode cX10_blur 49 = .ok (.iadd, 1) := by decide +kernel
theorem dX10_blur_50 : decode cX10_blur 50 = .ok (.iaload, 1) := by decide +kernel
theorem dX10_blur_51 : decode cX10_blur 51 = .ok (.iload 4, 2) := by decide +kernel
theorem dX10_blur_53 : decode cX10_blur 53 = .ok (.iadd, 1) := by decide +kernel
theorem dX10_blur_54 : decode cX10_blur 54 = .ok (.iload_n 3, 1) := by decide +kernel
theorem dX10_blur_55 : decode cX10_blur 55 = .ok (.idiv, 1) := by decide +kernel
theorem dX10_blur_56 : decode cX10_blur 56 = .ok (.goto 5, 3) := by decide +kernel
theorem dX10_blur_59 : decode cX10_blur 59 = .ok (.ldc 89, 2) := by decide +kernel
theorem dX10_blur_61 : decode cX10_blur 61 = .ok (.ireturn, 1) := by decide +kernel
theorem dX10_agreeing_0 : decode cX10_agreeing 0 = .ok (.iconst 0, 1) := by decide +kernel
theorem dX10_agreeing_1 : decode cX10_agreeing 1 = .ok (.istore 5, 2) := by decide +kernel
theorem dX10_agreeing_3 : decode cX10_agreeing 3 = .ok (.iconst 0, 1) := by decide +kernel
theorem dX10_agreeing_4 : decode cX10_agreeing 4 = .ok (.istore 6, 2) := by decide +kernel
theorem dX10_agreeing_6 : decode cX10_agreeing 6 = .ok (.iload 6, 2) := by decide +kernel
theorem dX10_agreeing_8 : decode cX10_agreeing 8 = .ok (.bipush 100, 2) := by decide +kernel
theorem dX10_agreeing_10 : decode cX10_agreeing 10 = .ok (.if_icmp .ge 49, 3) := by decide +kernel
theorem dX10_agreeing_13 : decode cX10_agreeing 13 = .ok (.iload 5, 2) := by decide +kernel
theorem dX10_agreeing_15 : decode cX10_agreeing 15 = .ok (.iload 6, 2) := by decide +kernel
theorem dX10_agreeing_17 : decode cX10_agreeing 17 = .ok (.iload_n 2, 1) := by decide +kernel
theorem dX10_agreeing_18 : decode cX10_agreeing 18 = .ok (.iadd, 1) := by decide +kernel
theorem dX10_agreeing_19 : decode cX10_agreeing 19 = .ok (.iload_n 1, 1) := by decide +kernel
theorem dX10_agreeing_20 : decode cX10_agreeing 20 = .ok (.idiv, 1) := by decide +kernel
theorem dX10_agreeing_21 : decode cX10_agreeing 21 = .ok (.iload_n 0, 1) := by decide +kernel
theorem dX10_agreeing_22 : decode cX10_agreeing 22 = .ok (.iload_n 2, 1) := by decide +kernel
theorem dX10_agreeing_23 : decode cX10_agreeing 23 = .ok (.iadd, 1) := by decide +kernel
theorem dX10_agreeing_24 : decode cX10_agreeing 24 = .ok (.iload_n 1, 1) := by decide +kernel
theorem dX10_agreeing_25 : decode cX10_agreeing 25 = .ok (.idiv, 1) := by decide +kernel
theorem dX10_agreeing_26 : decode cX10_agreeing 26 = .ok (.if_icmp .ne 23, 3) := by decide +kernel
theorem dX10_agreeing_29 : decode cX10_agreeing 29 = .ok (.iload 6, 2) := by decide +kernel
theorem dX10_agreeing_31 : decode cX10_agreeing 31 = .ok (.iload 4, 2) := by decide +kernel
theorem dX10_agreeing_33 : decode cX10_agreeing 33 = .ok (.iadd, 1) := by decide +kernel
theorem dX10_agreeing_34 : decode cX10_agreeing 34 = .ok (.iload_n 3, 1) := by decide +kernel
theorem dX10_agreeing_35 : decode cX10_agreeing 35 = .ok (.idiv, 1) := by decide +kernel
theorem dX10_agreeing_36 : decode cX10_agreeing 36 = .ok (.iload_n 0, 1) := by decide +kernel
theorem dX10_agreeing_37 : decode cX10_agreeing 37 = .ok (.iload 4, 2) := by decide +kernel
theorem dX10_agreeing_39 : decode cX10_agreeing 39 = .ok (.iadd, 1) := by decide +kernel
theorem dX10_agreeing_40 : decode cX10_agreeing 40 = .ok (.iload_n 3, 1) := by decide +kernel
theorem dX10_agreeing_41 : decode cX10_agreeing 41 = .ok (.idiv, 1) := by decide +kernel
theorem dX10_agreeing_42 : decode cX10_agreeing 42 = .ok (.if_icmp .ne 7, 3) := by decide +kernel
theorem dX10_agreeing_45 : decode cX10_agreeing 45 = .ok (.iconst 1, 1) := by decide +kernel
theorem dX10_agreeing_46 : decode cX10_agreeing 46 = .ok (.goto 4, 3) := by decide +kernel
theorem dX10_agreeing_49 : decode cX10_agreeing 49 = .ok (.iconst 0, 1) := by decide +kernel
theorem dX10_agreeing_50 : decode cX10_agreeing 50 = .ok (.iadd, 1) := by decide +kernel
theorem dX10_agreeing_51 : decode cX10_agreeing 51 = .ok (.istore 5, 2) := by decide +kernel
theorem dX10_agreeing_53 : decode cX10_agreeing 53 = .ok (.iinc 6 1, 3) := by decide +kernel
theorem dX10_agreeing_56 : decode cX10_agreeing 56 = .ok (.goto (-50), 3) := by decide +kernel
theorem dX10_agreeing_59 : decode cX10_agreeing 59 = .ok (.iload 5, 2) := by decide +kernel
theorem dX10_agreeing_61 : decode cX10_agreeing 61 = .ok (.ireturn, 1) := by decide +kernel
theorem dX10_together_0 : decode cX10_together 0 = .ok (.aload_n 0, 1) := by decide +kernel
theorem dX10_together_1 : decode cX10_together 1 = .ok (.iload_n 1, 1) := by decide +kernel
theorem dX10_together_2 : decode cX10_together 2 = .ok (.iload_n 2, 1) := by decide +kernel
theorem dX10_together_3 : decode cX10_together 3 = .ok (.invokevirtual 99, 3) := by decide +kernel
theorem dX10_together_6 : decode cX10_together 6 = .ok (.ifCond .ne 6, 3) := by decide +kernel
theorem dX10_together_9 : decode cX10_together 9 = .ok (.ldc 83, 2) := by decide +kernel
theorem dX10_together_11 : decode cX10_together 11 = .ok (.ireturn, 1) := by decide +kernel
theorem dX10_together_12 : decode cX10_together 12 = .ok (.iload_n 3, 1) := by decide +kernel
theorem dX10_together_13 : decode cX10_together 13 = .ok (.iload 4, 2) := by decide +kernel
theorem dX10_together_15 : decode cX10_together 15 = .ok (.invokestatic 294, 3) := by decide +kernel
theorem dX10_together_18 : decode cX10_together 18 = .ok (.ifCond .eq 13, 3) := by decide +kernel
theorem dX10_together_21 : decode cX10_together 21 = .ok (.iload 5, 2) := by decide +kernel
theorem dX10_together_23 : decode cX10_together 23 = .ok (.iload 6, 2) := by decide +kernel
theorem dX10_together_25 : decode cX10_together 25 = .ok (.invokestatic 294, 3) := by decide +kernel
theorem dX10_together_28 : decode cX10_together 28 = .ok (.ifCond .ne 6, 3) := by decide +kernel
theorem dX10_together_31 : decode cX10_together 31 = .ok (.ldc 89, 2) := by decide +kernel
theorem dX10_together_33 : decode cX10_together 33 = .ok (.ireturn, 1) := by decide +kernel
theorem dX10_together_34 : decode cX10_together 34 = .ok (.aload_n 0, 1) := by decide +kernel
theorem dX10_together_35 : decode cX10_together 35 = .ok (.getfield 16, 3) := by decide +kernel
theorem dX10_together_38 : decode cX10_together 38 = .ok (.bipush 24, 2) := by decide +kernel
theorem dX10_together_40 : decode cX10_together 40 = .ok (.iload_n 1, 1) := by decide +kernel
theorem dX10_together_41 : decode cX10_together 41 = .ok (.imul, 1) := by decide +kernel
theorem dX10_together_42 : decode cX10_together 42 = .ok (.iload_n 2, 1) := by decide +kernel
theorem dX10_together_43 : decode cX10_together 43 = .ok (.iadd, 1) := by decide +kernel
theorem dX10_together_44 : decode cX10_together 44 = .ok (.iaload, 1) := by decide +kernel
theorem dX10_together_45 : decode cX10_together 45 = .ok (.iload_n 3, 1) := by decide +kernel
theorem dX10_together_46 : decode cX10_together 46 = .ok (.iload 4, 2) := by decide +kernel
theorem dX10_together_48 : decode cX10_together 48 = .ok (.iload 5, 2) := by decide +kernel
theorem dX10_together_50 : decode cX10_together 50 = .ok (.iload 6, 2) := by decide +kernel
theorem dX10_together_52 : decode cX10_together 52 = .ok (.invokestatic 297, 3) := by decide +kernel
theorem dX10_together_55 : decode cX10_together 55 = .ok (.aload_n 0, 1) := by decide +kernel
theorem dX10_together_56 : decode cX10_together 56 = .ok (.getfield 19, 3) := by decide +kernel
theorem dX10_together_59 : decode cX10_together 59 = .ok (.bipush 24, 2) := by decide +kernel
theorem dX10_together_61 : decode cX10_together 61 = .ok (.iload_n 1, 1) := by decide +kernel
theorem dX10_together_62 : decode cX10_together 62 = .ok (.imul, 1) := by decide +kernel
theorem dX10_together_63 : decode cX10_together 63 = .ok (.iload_n 2, 1) := by decide +kernel
theorem dX10_together_64 : decode cX10_together 64 = .ok (.iadd, 1) := by decide +kernel
theorem dX10_together_65 : decode cX10_together 65 = .ok (.iaload, 1) := by decide +kernel
theorem dX10_together_66 : decode cX10_together 66 = .ok (.iload_n 3, 1) := by decide +kernel
theorem dX10_together_67 : decode cX10_together 67 = .ok (.iload 4, 2) := by decide +kernel
theorem dX10_together_69 : decode cX10_together 69 = .ok (.iload 5, 2) := by decide +kernel
theorem dX10_together_71 : decode cX10_together 71 = .ok (.iload 6, 2) := by decide +kernel
theorem dX10_together_73 : decode cX10_together 73 = .ok (.invokestatic 297, 3) := by decide +kernel
theorem dX10_together_76 : decode cX10_together 76 = .ok (.imul, 1) := by decide +kernel
theorem dX10_together_77 : decode cX10_together 77 = .ok (.ireturn, 1) := by decide +kernel
theorem dX10_count_0 : decode cX10_count 0 = .ok (.iconst 0, 1) := by decide +kernel
theorem dX10_count_1 : decode cX10_count 1 = .ok (.istore_n 2, 1) := by decide +kernel
theorem dX10_count_2 : decode cX10_count 2 = .ok (.iconst 0, 1) := by decide +kernel
theorem dX10_count_3 : decode cX10_count 3 = .ok (.istore_n 3, 1) := by decide +kernel
theorem dX10_count_4 : decode cX10_count 4 = .ok (.iconst 0, 1) := by decide +kernel
theorem dX10_count_5 : decode cX10_count 5 = .ok (.istore 4, 2) := by decide +kernel
theorem dX10_count_7 : decode cX10_count 7 = .ok (.iconst 0, 1) := by decide +kernel
theorem dX10_count_8 : decode cX10_count 8 = .ok (.istore 5, 2) := by decide +kernel
theorem dX10_count_10 : decode cX10_count 10 = .ok (.iload 5, 2) := by decide +kernel
theorem dX10_count_12 : decode cX10_count 12 = .ok (.bipush 10, 2) := by decide +kernel
theorem dX10_count_14 : decode cX10_count 14 = .ok (.if_icmp .ge 60, 3) := by decide +kernel
theorem dX10_count_17 : decode cX10_count 17 = .ok (.iload_n 2, 1) := by decide +kernel
theorem dX10_count_18 : decode cX10_count 18 = .ok (.aload_n 0, 1) := by decide +kernel
theorem dX10_count_19 : decode cX10_count 19 = .ok (.getfield 7, 3) := by decide +kernel
theorem dX10_count_22 : decode cX10_count 22 = .ok (.iload 5, 2) := by decide +kernel
theorem dX10_count_24 : decode cX10_count 24 = .ok (.iaload, 1) := by decide +kernel
theorem dX10_count_25 : decode cX10_count 25 = .ok (.iadd, 1) := by decide +kernel
theorem dX10_count_26 : decode cX10_count 26 = .ok (.istore_n 2, 1) := by decide +kernel
theorem dX10_count_27 : decode cX10_count 27 = .ok (.iload_n 3, 1) := by decide +kernel
theorem dX10_count_28 : decode cX10_count 28 = .ok (.aload_n 0, 1) := by decide +kernel
theorem dX10_count_29 : decode cX10_count 29 = .ok (.getfield 7, 3) := by decide +kernel
theorem dX10_count_32 : decode cX10_count 32 = .ok (.iload 5, 2) := by decide +kernel
theorem dX10_count_34 : decode cX10_count 34 = .ok (.iaload, 1) := by decide +kernel
theorem dX10_count_35 : decode cX10_count 35 = .ok (.ifCond .le 7, 3) := by decide +kernel
theorem dX10_count_38 : decode cX10_count 38 = .ok (.iconst 1, 1) := by decide +kernel
theorem dX10_count_39 : decode cX10_count 39 = .ok (.goto 4, 3) := by decide +kernel
theorem dX10_count_42 : decode cX10_count 42 = .ok (.iconst 0, 1) := by decide +kernel
theorem dX10_count_43 : decode cX10_count 43 = .ok (.iadd, 1) := by decide +kernel
theorem dX10_count_44 : decode cX10_count 44 = .ok (.istore_n 3, 1) := by decide +kernel
theorem dX10_count_45 : decode cX10_count 45 = .ok (.iload 4, 2) := by decide +kernel
theorem dX10_count_47 : decode cX10_count 47 = .ok (.aload_n 0, 1) := by decide +kernel
theorem dX10_count_48 : decode cX10_count 48 = .ok (.iload 5, 2) := by decide +kernel
theorem dX10_count_50 : decode cX10_count 50 = .ok (.aload_n 0, 1) := by decide +kernel
theorem dX10_count_51 : decode cX10_count 51 = .ok (.getfield 269, 3) := by decide +kernel
theorem dX10_count_54 : decode cX10_count 54 = .ok (.invokevirtual 130, 3) := by decide +kernel
theorem dX10_count_57 : decode cX10_count 57 = .ok (.ifCond .eq 7, 3) := by decide +kernel
theorem dX10_count_60 : decode cX10_count 60 = .ok (.iconst 1, 1) := by decide +kernel
theorem dX10_count_61 : decode cX10_count 61 = .ok (.goto 4, 3) := by decide +kernel
theorem dX10_count_64 : decode cX10_count 64 = .ok (.iconst 0, 1) := by decide +kernel
theorem dX10_count_65 : decode cX10_count 65 = .ok (.iadd, 1) := by decide +kernel
theorem dX10_count_66 : decode cX10_count 66 = .ok (.istore 4, 2) := by decide +kernel
theorem dX10_count_68 : decode cX10_count 68 = .ok (.iinc 5 1, 3) := by decide +kernel
theorem dX10_count_71 : decode cX10_count 71 = .ok (.goto (-61), 3) := by decide +kernel
theorem dX10_count_74 : decode cX10_count 74 = .ok (.iload_n 1, 1) := by decide +kernel
theorem dX10_count_75 : decode cX10_count 75 = .ok (.tableswitch 50 0 4 #[33, 35, 37, 40, 45], 33) := by decide +kernel
theorem dX10_count_108 : decode cX10_count 108 = .ok (.iload_n 2, 1) := by decide +kernel
theorem dX10_count_109 : decode cX10_count 109 = .ok (.ireturn, 1) := by decide +kernel
theorem dX10_count_110 : decode cX10_count 110 = .ok (.iload_n 3, 1) := by decide +kernel
theorem dX10_count_111 : decode cX10_count 111 = .ok (.ireturn, 1) := by decide +kernel
theorem dX10_count_112 : decode cX10_count 112 = .ok (.iload 4, 2) := by decide +kernel
theorem dX10_count_114 : decode cX10_count 114 = .ok (.ireturn, 1) := by decide +kernel
theorem dX10_count_115 : decode cX10_count 115 = .ok (.aload_n 0, 1) := by decide +kernel
theorem dX10_count_116 : decode cX10_count 116 = .ok (.getfield 272, 3) := by decide +kernel
theorem dX10_count_119 : decode cX10_count 119 = .ok (.ireturn, 1) := by decide +kernel
theorem dX10_count_120 : decode cX10_count 120 = .ok (.aload_n 0, 1) := by decide +kernel
theorem dX10_count_121 : decode cX10_count 121 = .ok (.getfield 269, 3) := by decide +kernel
theorem dX10_count_124 : decode cX10_count 124 = .ok (.ireturn, 1) := by decide +kernel
theorem dX10_count_125 : decode cX10_count 125 = .ok (.ldc 89, 2) := by decide +kernel
theorem dX10_count_127 : decode cX10_count 127 = .ok (.ireturn, 1) := by decide +kernel
