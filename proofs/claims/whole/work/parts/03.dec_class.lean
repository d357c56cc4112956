theorem dX0_init_0 : decode cX0_init 0 = .ok (.aload_n 0, 1) := by decide +kernel
theorem dX0_init_1 : decode cX0_init 1 = .ok (.invokespecial 1, 3) := by decide +kernel
theorem dX0_init_4 : decode cX0_init 4 = .ok (.return_, 1) := by decide +kernel
theorem dX0_copyFrom_0 : decode cX0_copyFrom 0 = .ok (.aload_n 0, 1) := by decide +kernel
theorem dX0_copyFrom_1 : decode cX0_copyFrom 1 = .ok (.aload_n 1, 1) := by decide +kernel
theorem dX0_copyFrom_2 : decode cX0_copyFrom 2 = .ok (.getfield 7, 3) := by decide +kernel
theorem dX0_copyFrom_5 : decode cX0_copyFrom 5 = .ok (.putfield 7, 3) := by decide +kernel
theorem dX0_copyFrom_8 : decode cX0_copyFrom 8 = .ok (.aload_n 0, 1) := by decide +kernel
theorem dX0_copyFrom_9 : decode cX0_copyFrom 9 = .ok (.aload_n 1, 1) := by decide +kernel
theorem dX0_copyFrom_10 : decode cX0_copyFrom 10 = .ok (.getfield 13, 3) := by decide +kernel
theorem dX0_copyFrom_13 : decode cX0_copyFrom 13 = .ok (.putfield 13, 3) := by decide +kernel
theorem dX0_copyFrom_16 : decode cX0_copyFrom 16 = .ok (.aload_n 0, 1) := by decide +kernel
theorem dX0_copyFrom_17 : decode cX0_copyFrom 17 = .ok (.aload_n 1, 1) := by decide +kernel
theorem dX0_copyFrom_18 : decode cX0_copyFrom 18 = .ok (.getfield 16, 3) := by decide +kernel
theorem dX0_copyFrom_21 : decode cX0_copyFrom 21 = .ok (.putfield 16, 3) := by decide +kernel
theorem dX0_copyFrom_24 : decode cX0_copyFrom 24 = .ok (.aload_n 0, 1) := by decide +kernel
theorem dX0_copyFrom_25 : decode cX0_copyFrom 25 = .ok (.aload_n 1, 1) := by decide +kernel
theorem dX0_copyFrom_26 : decode cX0_copyFrom 26 = .ok (.getfield 19, 3) := by decide +kernel
theorem dX0_copyFrom_29 : decode cX0_copyFrom 29 = .ok (.putfield 19, 3) := by decide +kernel
theorem dX0_copyFrom_32 : decode cX0_copyFrom 32 = .ok (.return_, 1) := by decide +kernel
theorem dX1_init_0 : decode cX1_init 0 = .ok (.aload_n 0, 1) := by decide +kernel
theorem dX1_init_1 : decode cX1_init 1 = .ok (.invokespecial 3, 3) := by decide +kernel
theorem dX1_init_4 : decode cX1_init 4 = .ok (.aload_n 0, 1) := by decide +kernel
theorem dX1_init_5 : decode cX1_init 5 = .ok (.bipush 60, 2) := by decide +kernel
theorem dX1_init_7 : decode cX1_init 7 = .ok (.newarray .int, 2) := by decide +kernel
theorem dX1_init_9 : decode cX1_init 9 = .ok (.putfield 9, 3) := by decide +kernel
theorem dX1_init_12 : decode cX1_init 12 = .ok (.aload_n 0, 1) := by decide +kernel
theorem dX1_init_13 : decode cX1_init 13 = .ok (.bipush 60, 2) := by decide +kernel
theorem dX1_init_15 : decode cX1_init 15 = .ok (.newarray .int, 2) := by decide +kernel
theorem dX1_init_17 : decode cX1_init 17 = .ok (.putfield 15, 3) := by decide +kernel
theorem dX1_init_20 : decode cX1_init 20 = .ok (.return_, 1) := by decide +kernel
theorem dX1_isTold_0 : decode cX1_isTold 0 = .ok (.aload_n 0, 1) := by decide +kernel
theorem dX1_isTold_1 : decode cX1_isTold 1 = .ok (.getfield 18, 3) := by decide +kernel
theorem dX1_isTold_4 : decode cX1_isTold 4 = .ok (.ifCond .le 7, 3) := by decide +kernel
theorem dX1_isTold_7 : decode cX1_isTold 7 = .ok (.iconst 1, 1) := by decide +kernel
theorem dX1_isTold_8 : decode cX1_isTold 8 = .ok (.goto 4, 3) := by decide +kernel
theorem dX1_isTold_11 : decode cX1_isTold 11 = .ok (.iconst 0, 1) := by decide +kernel
theorem dX1_isTold_12 : decode cX1_isTold 12 = .ok (.ireturn, 1) := by decide +kernel
theorem dX1_take_0 : decode cX1_take 0 = .ok (.aload_n 1, 1) := by decide +kernel
theorem dX1_take_1 : decode cX1_take 1 = .ok (.iconst 0, 1) := by decide +kernel
theorem dX1_take_2 : decode cX1_take 2 = .ok (.aload_n 0, 1) := by decide +kernel
theorem dX1_take_3 : decode cX1_take 3 = .ok (.getfield 9, 3) := by decide +kernel
theorem dX1_take_6 : decode cX1_take 6 = .ok (.iconst 0, 1) := by decide +kernel
theorem dX1_take_7 : decode cX1_take 7 = .ok (.iload_n 2, 1) := by decide +kernel
theorem dX1_take_8 : decode cX1_take 8 = .ok (.invokestatic 22, 3) := by decide +kernel
theorem dX1_take_11 : decode cX1_take 11 = .ok (.aload_n 0, 1) := by decide +kernel
theorem dX1_take_12 : decode cX1_take 12 = .ok (.iload_n 2, 1) := by decide +kernel
theorem dX1_take_13 : decode cX1_take 13 = .ok (.putfield 18, 3) := by decide +kernel
theorem dX1_take_16 : decode cX1_take 16 = .ok (.return_, 1) := by decide +kernel
theorem dX1_value_0 : decode cX1_value 0 = .ok (.iconst 0, 1) := by decide +kernel
theorem dX1_value_1 : decode cX1_value 1 = .ok (.istore 5, 2) := by decide +kernel
theorem dX1_value_3 : decode cX1_value 3 = .ok (.iconst 0, 1) := by decide +kernel
theorem dX1_value_4 : decode cX1_value 4 = .ok (.istore 6, 2) := by decide +kernel
theorem dX1_value_6 : decode cX1_value 6 = .ok (.iload 6, 2) := by decide +kernel
theorem dX1_value_8 : decode cX1_value 8 = .ok (.aload_n 0, 1) := by decide +kernel
theorem dX1_value_9 : decode cX1_value 9 = .ok (.getfield 18, 3) := by decide +kernel
theorem dX1_value_12 : decode cX1_value 12 = .ok (.if_icmp .ge 150, 3) := by decide +kernel
theorem dX1_value_15 : decode cX1_value 15 = .ok (.aload_n 0, 1) := by decide +kernel
theorem dX1_value_16 : decode cX1_value 16 = .ok (.getfield 9, 3) := by decide +kernel
theorem dX1_value_19 : decode cX1_value 19 = .ok (.iload 6, 2) := by decide +kernel
theorem dX1_value_21 : decode cX1_value 21 = .ok (.iaload, 1) := by decide +kernel
theorem dX1_value_22 : decode cX1_value 22 = .ok (.istore 7, 2) := by decide +kernel
theorem dX1_value_24 : decode cX1_value 24 = .ok (.iload 7, 2) := by decide +kernel
theorem dX1_value_26 : decode cX1_value 26 = .ok (.bipush (-4), 2) := by decide +kernel
theorem dX1_value_28 : decode cX1_value 28 = .ok (.if_icmp .lt 46, 3) := by decide +kernel
theorem dX1_value_31 : decode cX1_value 31 = .ok (.iload 5, 2) := by decide +kernel
theorem dX1_value_33 : decode cX1_value 33 = .ok (.aload_n 0, 1) := by decide +kernel
theorem dX1_value_34 : decode cX1_value 34 = .ok (.getfield 15, 3) := by decide +kernel
theorem dX1_value_37 : decode cX1_value 37 = .ok (.arraylength, 1) := by decide +kernel
theorem dX1_value_38 : decode cX1_value 38 = .ok (.if_icmp .ge 36, 3) := by decide +kernel
theorem dX1_value_41 : decode cX1_value 41 = .ok (.aload_n 0, 1) := by decide +kernel
theorem dX1_value_42 : decode cX1_value 42 = .ok (.getfield 15, 3) := by decide +kernel
theorem dX1_value_45 : decode cX1_value 45 = .ok (.iload 5, 2) := by decide +kernel
theorem dX1_value_47 : decode cX1_value 47 = .ok (.iload 7, 2) := by decide +kernel
theorem dX1_value_49 : decode cX1_value 49 = .ok (.ifCond .lt 8, 3) := by decide +kernel
theorem dX1_value_52 : decode cX1_value 52 = .ok (.iload 7, 2) := by decide +kernel
theorem dX1_value_54 : decode cX1_value 54 = .ok (.goto 13, 3) := by decide +kernel
theorem dX1_value_57 : decode cX1_value 57 = .ok (.iload 7, 2) := by decide +kernel
theorem dX1_value_59 : decode cX1_value 59 = .ok (.iload_n 1, 1) := by decide +kernel
theorem dX1_value_60 : decode cX1_value 60 = .ok (.iload_n 2, 1) := by decide +kernel
theorem dX1_value_61 : decode cX1_value 61 = .ok (.iload_n 3, 1) := by decide +kernel
theorem dX1_value_62 : decode cX1_value 62 = .ok (.iload 4, 2) := by decide +kernel
theorem dX1_value_64 : decode cX1_value 64 = .ok (.invokestatic 28, 3) := by decide +kernel
theorem dX1_value_67 : decode cX1_value 67 = .ok (.iastore, 1) := by decide +kernel
theorem dX1_value_68 : decode cX1_value 68 = .ok (.iinc 5 1, 3) := by decide +kernel
theorem dX1_value_71 : decode cX1_value 71 = .ok (.goto 85, 3) := by decide +kernel
theorem dX1_value_74 : decode cX1_value 74 = .ok (.iload 7, 2) := by decide +kernel
theorem dX1_value_76 : decode cX1_value 76 = .ok (.bipush (-33), 2) := by decide +kernel
theorem dX1_value_78 : decode cX1_value 78 = .ok (.if_icmp .ne 38, 3) := by decide +kernel
theorem dX1_value_81 : decode cX1_value 81 = .ok (.iload 5, 2) := by decide +kernel
theorem dX1_value_83 : decode cX1_value 83 = .ok (.iconst 1, 1) := by decide +kernel
theorem dX1_value_84 : decode cX1_value 84 = .ok (.if_icmp .lt 32, 3) := by decide +kernel
theorem dX1_value_87 : decode cX1_value 87 = .ok (.aload_n 0, 1) := by decide +kernel
theorem dX1_value_88 : decode cX1_value 88 = .ok (.getfield 15, 3) := by decide +kernel
theorem dX1_value_91 : decode cX1_value 91 = .ok (.iload 5, 2) := by decide +kernel
theorem dX1_value_93 : decode cX1_value 93 = .ok (.iconst 1, 1) := by decide +kernel
theorem dX1_value_94 : decode cX1_value 94 = .ok (.isub, 1) := by decide +kernel
theorem dX1_value_95 : decode cX1_value 95 = .ok (.aload_n 0, 1) := by decide +kernel
theorem dX1_value_96 : decode cX1_value 96 = .ok (.getfield 15, 3) := by decide +kernel
theorem dX1_value_99 : decode cX1_value 99 = .ok (.iload 5, 2) := by decide +kernel
theorem dX1_value_101 : decode cX1_value 101 = .ok (.iconst 1, 1) := by decide +kernel
theorem dX1_value_102 : decode cX1_value 102 = .ok (.isub, 1) := by decide +kernel
theorem dX1_value_103 : decode cX1_value 103 = .ok (.iaload, 1) := by decide +kernel
theorem dX1_value_104 : decode cX1_value 104 = .ok (.ifCond .ne 7, 3) := by decide +kernel
theorem dX1_value_107 : decode cX1_value 107 = .ok (.iconst 1, 1) := by decide +kernel
theorem dX1_value_108 : decode cX1_value 108 = .ok (.goto 4, 3) := by decide +kernel
theorem dX1_value_111 : decode cX1_value 111 = .ok (.iconst 0, 1) := by decide +kernel
theorem dX1_value_112 : decode cX1_value 112 = .ok (.iastore, 1) := by decide +kernel
theorem dX1_value_113 : decode cX1_value 113 = .ok (.goto 43, 3) := by decide +kernel
theorem dX1_value_116 : decode cX1_value 116 = .ok (.iload 5, 2) := by decide +kernel
theorem dX1_value_118 : decode cX1_value 118 = .ok (.iconst 2, 1) := by decide +kernel
theorem dX1_value_119 : decode cX1_value 119 = .ok (.if_icmp .lt 37, 3) := by decide +kernel
theorem dX1_value_122 : decode cX1_value 122 = .ok (.iinc 5 (-1), 3) := by decide +kernel
theorem dX1_value_125 : decode cX1_value 125 = .ok (.aload_n 0, 1) := by decide +kernel
theorem dX1_value_126 : decode cX1_value 126 = .ok (.getfield 15, 3) := by decide +kernel
theorem dX1_value_129 : decode cX1_value 129 = .ok (.iload 5, 2) := by decide +kernel
theorem dX1_value_131 : decode cX1_value 131 = .ok (.iconst 1, 1) := by decide +kernel
theorem dX1_value_132 : decode cX1_value 132 = .ok (.isub, 1) := by decide +kernel
theorem dX1_value_133 : decode cX1_value 133 = .ok (.iload 7, 2) := by decide +kernel
theorem dX1_value_135 : decode cX1_value 135 = .ok (.ineg, 1) := by decide +kernel
theorem dX1_value_136 : decode cX1_value 136 = .ok (.aload_n 0, 1) := by decide +kernel
theorem dX1_value_137 : decode cX1_value 137 = .ok (.getfield 15, 3) := by decide +kernel
theorem dX1_value_140 : decode cX1_value 140 = .ok (.iload 5, 2) := by decide +kernel
theorem dX1_value_142 : decode cX1_value 142 = .ok (.iconst 1, 1) := by decide +kernel
theorem dX1_value_143 : decode cX1_value 143 = .ok (.isub, 1) := by decide +kernel
theorem dX1_value_144 : decode cX1_value 144 = .ok (.iaload, 1) := by decide +kernel
theorem dX1_value_145 : decode cX1_value 145 = .ok (.aload_n 0, 1) := by decide +kernel
theorem dX1_value_146 : decode cX1_value 146 = .ok (.getfield 15, 3) := by decide +kernel
theorem dX1_value_149 : decode cX1_value 149 = .ok (.iload 5, 2) := by decide +kernel
theorem dX1_value_151 : decode cX1_value 151 = .ok (.iaload, 1) := by decide +kernel
theorem dX1_value_152 : decode cX1_value 152 = .ok (.invokestatic 32, 3) := by decide +kernel
theorem dX1_value_155 : decode cX1_value 155 = .ok (.iastore, 1) := by decide +kernel
theorem dX1_value_156 : decode cX1_value 156 = .ok (.iinc 6 1, 3) := by decide +kernel
theorem dX1_value_159 : decode cX1_value 159 = .ok (.goto (-153), 3) := by decide +kernel
theorem dX1_value_162 : decode cX1_value 162 = .ok (.iload 5, 2) := by decide +kernel
theorem dX1_value_164 : decode cX1_value 164 = .ok (.ifCond .le 15, 3) := by decide +kernel
theorem dX1_value_167 : decode cX1_value 167 = .ok (.aload_n 0, 1) := by decide +kernel
theorem dX1_value_168 : decode cX1_value 168 = .ok (.getfield 15, 3) := by decide +kernel
theorem dX1_value_171 : decode cX1_value 171 = .ok (.iload 5, 2) := by decide +kernel
theorem dX1_value_173 : decode cX1_value 173 = .ok (.iconst 1, 1) := by decide +kernel
theorem dX1_value_174 : decode cX1_value 174 = .ok (.isub, 1) := by decide +kernel
theorem dX1_value_175 : decode cX1_value 175 = .ok (.iaload, 1) := by decide +kernel
theorem dX1_value_176 : decode cX1_value 176 = .ok (.goto 4, 3) := by decide +kernel
theorem dX1_value_179 : decode cX1_value 179 = .ok (.iconst 0, 1) := by decide +kernel
theorem dX1_value_180 : decode cX1_value 180 = .ok (.ireturn, 1) := by decide +kernel
theorem dX1_named_0 : decode cX1_named 0 = .ok (.iload_n 0, 1) := by decide +kernel
theorem dX1_named_1 : decode cX1_named 1 = .ok (.tableswitch 33 (-3) (-1) #[31, 29, 27], 27) := by decide +kernel
theorem dX1_named_28 : decode cX1_named 28 = .ok (.iload_n 1, 1) := by decide +kernel
theorem dX1_named_29 : decode cX1_named 29 = .ok (.ireturn, 1) := by decide +kernel
theorem dX1_named_30 : decode cX1_named 30 = .ok (.iload_n 2, 1) := by decide +kernel
theorem dX1_named_31 : decode cX1_named 31 = .ok (.ireturn, 1) := by decide +kernel
theorem dX1_named_32 : decode cX1_named 32 = .ok (.iload_n 3, 1) := by decide +kernel
theorem dX1_named_33 : decode cX1_named 33 = .ok (.ireturn, 1) := by decide +kernel
theorem dX1_named_34 : decode cX1_named 34 = .ok (.iload 4, 2) := by decide +kernel
theorem dX1_named_36 : decode cX1_named 36 = .ok (.ireturn, 1) := by decide +kernel
theorem dX1_worked_0 : decode cX1_worked 0 = .ok (.iload_n 0, 1) := by decide +kernel
theorem dX1_worked_1 : decode cX1_worked 1 = .ok (.lookupswitch 188 #[(37, 176), (38, 105), (42, 160), (43, 152), (45, 156), (47, 164), (60, 119), (61, 130), (62, 141), (124, 91)], 91) := by decide +kernel
theorem dX1_worked_92 : decode cX1_worked 92 = .ok (.iload_n 1, 1) := by decide +kernel
theorem dX1_worked_93 : decode cX1_worked 93 = .ok (.ifCond .ne 7, 3) := by decide +kernel
theorem dX1_worked_96 : decode cX1_worked 96 = .ok (.iload_n 2, 1) := by decide +kernel
theorem dX1_worked_97 : decode cX1_worked 97 = .ok (.ifCond .eq 7, 3) := by decide +kernel
theorem dX1_worked_100 : decode cX1_worked 100 = .ok (.iconst 1, 1) := by decide +kernel
theorem dX1_worked_101 : decode cX1_worked 101 = .ok (.goto 4, 3) := by decide +kernel
theorem dX1_worked_104 : decode cX1_worked 104 = .ok (.iconst 0, 1) := by decide +kernel
theorem dX1_worked_105 : decode cX1_worked 105 = .ok (.ireturn, 1) := by decide +kernel
theorem dX1_worked_106 : decode cX1_worked 106 = .ok (.iload_n 1, 1) := by decide +kernel
theorem dX1_worked_107 : decode cX1_worked 107 = .ok (.ifCond .eq 11, 3) := by decide +kernel
theorem dX1_worked_110 : decode cX1_worked 110 = .ok (.iload_n 2, 1) := by decide +kernel
theorem dX1_worked_111 : decode cX1_worked 111 = .ok (.ifCond .eq 7, 3) := by decide +kernel
theorem dX1_worked_114 : decode cX1_worked 114 = .ok (.iconst 1, 1) := by decide +kernel
theorem dX1_worked_115 : decode cX1_worked 115 = .ok (.goto 4, 3) := by decide +kernel
theorem dX1_worked_118 : decode cX1_worked 118 = .ok (.iconst 0, 1) := by decide +kernel
theorem dX1_worked_119 : decode cX1_worked 119 = .ok (.ireturn, 1) := by decide +kernel
theorem dX1_worked_120 : decode cX1_worked 120 = .ok (.iload_n 1, 1) := by decide +kernel
theorem dX1_worked_121 : decode cX1_worked 121 = .ok (.iload_n 2, 1) := by decide +kernel
theorem dX1_worked_122 : decode cX1_worked 122 = .ok (.if_icmp .ge 7, 3) := by decide +kernel
theorem dX1_worked_125 : decode cX1_worked 125 = .ok (.iconst 1, 1) := by decide +kernel
theorem dX1_worked_126 : decode cX1_worked 126 = .ok (.goto 4, 3) := by decide +kernel
theorem dX1_worked_129 : decode cX1_worked 129 = .ok (.iconst 0, 1) := by decide +kernel
theorem dX1_worked_130 : decode cX1_worked 130 = .ok (.ireturn, 1) := by decide +kernel
theorem dX1_worked_131 : decode cX1_worked 131 = .ok (.iload_n 1, 1) := by decide +kernel
theorem dX1_worked_132 : decode cX1_worked 132 = .ok (.iload_n 2, 1) := by decide +kernel
theorem dX1_worked_133 : decode cX1_worked 133 = .ok (.if_icmp .ne 7, 3) := by decide +kernel
theorem dX1_worked_136 : decode cX1_worked 136 = .ok (.iconst 1, 1) := by decide +kernel
theorem dX1_worked_137 : decode cX1_worked 137 = .ok (.goto 4, 3) := by decide +kernel
theorem dX1_worked_140 : decode cX1_worked 140 = .ok (.iconst 0, 1) := by decide +kernel
theorem dX1_worked_141 : decode cX1_worked 141 = .ok (.ireturn, 1) := by decide +kernel
theorem dX1_worked_142 : decode cX1_worked 142 = .ok (.iload_n 1, 1) := by decide +kernel
theorem dX1_worked_143 : decode cX1_worked 143 = .ok (.iload_n 2, 1) := by decide +kernel
theorem dX1_worked_144 : decode cX1_worked 144 = .ok (.if_icmp .le 7, 3) := by decide +kernel
theorem dX1_worked_147 : decode cX1_worked 147 = .ok (.iconst 1, 1) := by decide +kernel
theorem dX1_worked_148 : decode cX1_worked 148 = .ok (.goto 4, 3) := by decide +kernel
theorem dX1_worked_151 : decode cX1_worked 151 = .ok (.iconst 0, 1) := by decide +kernel
theorem dX1_worked_152 : decode cX1_worked 152 = .ok (.ireturn, 1) := by decide +kernel
theorem dX1_worked_153 : decode cX1_worked 153 = .ok (.iload_n 1, 1) := by decide +kernel
theorem dX1_worked_154 : decode cX1_worked 154 = .ok (.iload_n 2, 1) := by decide +kernel
theorem dX1_worked_155 : decode cX1_worked 155 = .ok (.iadd, 1) := by decide +kernel
theorem dX1_worked_156 : decode cX1_worked 156 = .ok (.ireturn, 1) := by decide +kernel
theorem dX1_worked_157 : decode cX1_worked 157 = .ok (.iload_n 1, 1) := by decide +kernel
theorem dX1_worked_158 : decode cX1_worked 158 = .ok (.iload_n 2, 1) := by decide +kernel
theorem dX1_worked_159 : decode cX1_worked 159 = .ok (.isub, 1) := by decide +kernel
theorem dX1_worked_160 : decode cX1_worked 160 = .ok (.ireturn, 1) := by decide +kernel
theorem dX1_worked_161 : decode cX1_worked 161 = .ok (.iload_n 1, 1) := by decide +kernel
theorem dX1_worked_162 : decode cX1_worked 162 = .ok (.iload_n 2, 1) := by decide +kernel
theorem dX1_worked_163 : decode cX1_worked 163 = .ok (.imul, 1) := by decide +kernel
theorem dX1_worked_164 : decode cX1_worked 164 = .ok (.ireturn, 1) := by decide +kernel
theorem dX1_worked_165 : decode cX1_worked 165 = .ok (.iload_n 2, 1) := by decide +kernel
theorem dX1_worked_166 : decode cX1_worked 166 = .ok (.ifCond .ne 7, 3) := by decide +kernel
theorem dX1_worked_169 : decode cX1_worked 169 = .ok (.iconst 0, 1) := by decide +kernel
theorem dX1_worked_170 : decode cX1_worked 170 = .ok (.goto 6, 3) := by decide +kernel
theorem dX1_worked_173 : decode cX1_worked 173 = .ok (.iload_n 1, 1) := by decide +kernel
theorem dX1_worked_174 : decode cX1_worked 174 = .ok (.iload_n 2, 1) := by decide +kernel
theorem dX1_worked_175 : decode cX1_worked 175 = .ok (.idiv, 1) := by decide +kernel
theorem dX1_worked_176 : decode cX1_worked 176 = .ok (.ireturn, 1) := by decide +kernel
theorem dX1_worked_177 : decode cX1_worked 177 = .ok (.iload_n 2, 1) := by decide +kernel
theorem dX1_worked_178 : decode cX1_worked 178 = .ok (.ifCond .ne 7, 3) := by decide +kernel
theorem dX1_worked_181 : decode cX1_worked 181 = .ok (.iconst 0, 1) := by decide +kernel
theorem dX1_worked_182 : decode cX1_worked 182 = .ok (.goto 6, 3) := by decide +kernel
theorem dX1_worked_185 : decode cX1_worked 185 = .ok (.iload_n 1, 1) := by decide +kernel
theorem dX1_worked_186 : decode cX1_worked 186 = .ok (.iload_n 2, 1) := by decide +kernel
theorem dX1_worked_187 : decode cX1_worked 187 = .ok (.irem, 1) := by decide +kernel
theorem dX1_worked_188 : decode cX1_worked 188 = .ok (.ireturn, 1) := by decide +kernel
theorem dX1_worked_189 : decode cX1_worked 189 = .ok (.iconst 0, 1) := by decide +kernel
theorem dX1_worked_190 : decode cX1_worked 190 = .ok (.ireturn, 1) := by decide +kernel
theorem dX2_init_0 : decode cX2_init 0 = .ok (.aload_n 0, 1) := by decide +kernel
theorem dX2_init_1 : decode cX2_init 1 = .ok (.invokespecial 3, 3) := by decide +kernel
theorem dX2_init_4 : decode cX2_init 4 = .ok (.aload_n 0, 1) := by decide +kernel
theorem dX2_init_5 : decode cX2_init 5 = .ok (.bipush 60, 2) := by decide +kernel
theorem dX2_init_7 : decode cX2_init 7 = .ok (.newarray .int, 2) := by decide +kernel
theorem dX2_init_9 : decode cX2_init 9 = .ok (.putfield 9, 3) := by decide +kernel
theorem dX2_init_12 : decode cX2_init 12 = .ok (.aload_n 0, 1) := by decide +kernel
theorem dX2_init_13 : decode cX2_init 13 = .ok (.bipush 60, 2) := by decide +kernel
theorem dX2_init_15 : decode cX2_init 15 = .ok (.newarray .int, 2) := by decide +kernel
theorem dX2_init_17 : decode cX2_init 17 = .ok (.putfield 15, 3) := by decide +kernel
theorem dX2_init_20 : decode cX2_init 20 = .ok (.aload_n 0, 1) := by decide +kernel
theorem dX2_init_21 : decode cX2_init 21 = .ok (.ldc 18, 2) := by decide +kernel
theorem dX2_init_23 : decode cX2_init 23 = .ok (.putfield 20, 3) := by decide +kernel
theorem dX2_init_26 : decode cX2_init 26 = .ok (.return_, 1) := by decide +kernel
theorem dX2_faultIn_0 : decode cX2_faultIn 0 = .ok (.aload_n 0, 1) := by decide +kernel
theorem dX2_faultIn_1 : decode cX2_faultIn 1 = .ok (.iconst 0, 1) := by decide +kernel
theorem dX2_faultIn_2 : decode cX2_faultIn 2 = .ok (.putfield 24, 3) := by decide +kernel
theorem dX2_faultIn_5 : decode cX2_faultIn 5 = .ok (.aload_n 0, 1) := by decide +kernel
theorem dX2_faultIn_6 : decode cX2_faultIn 6 = .ok (.iconst 0, 1) := by decide +kernel
theorem dX2_faultIn_7 : decode cX2_faultIn 7 = .ok (.putfield 28, 3) := by decide +kernel
theorem dX2_faultIn_10 : decode cX2_faultIn 10 = .ok (.aload_n 0, 1) := by decide +kernel
theorem dX2_faultIn_11 : decode cX2_faultIn 11 = .ok (.iconst 0, 1) := by decide +kernel
theorem dX2_faultIn_12 : decode cX2_faultIn 12 = .ok (.putfield 31, 3) := by decide +kernel
theorem dX2_faultIn_15 : decode cX2_faultIn 15 = .ok (.aload_n 0, 1) := by decide +kernel
theorem dX2_faultIn_16 : decode cX2_faultIn 16 = .ok (.iconst 0, 1) := by decide +kernel
theorem dX2_faultIn_17 : decode cX2_faultIn 17 = .ok (.putfield 34, 3) := by decide +kernel
theorem dX2_faultIn_20 : decode cX2_faultIn 20 = .ok (.aload_n 0, 1) := by decide +kernel
theorem dX2_faultIn_21 : decode cX2_faultIn 21 = .ok (.iconst 1, 1) := by decide +kernel
theorem dX2_faultIn_22 : decode cX2_faultIn 22 = .ok (.putfield 37, 3) := by decide +kernel
theorem dX2_faultIn_25 : decode cX2_faultIn 25 = .ok (.aload_n 0, 1) := by decide +kernel
theorem dX2_faultIn_26 : decode cX2_faultIn 26 = .ok (.iconst 0, 1) := by decide +kernel
theorem dX2_faultIn_27 : decode cX2_faultIn 27 = .ok (.putfield 41, 3) := by decide +kernel
theorem dX2_faultIn_30 : decode cX2_faultIn 30 = .ok (.aload_n 0, 1) := by decide +kernel
theorem dX2_faultIn_31 : decode cX2_faultIn 31 = .ok (.iload_n 3, 1) := by decide +kernel
theorem dX2_faultIn_32 : decode cX2_faultIn 32 = .ok (.ifCond .ne 8, 3) := by decide +kernel
theorem dX2_faultIn_35 : decode cX2_faultIn 35 = .ok (.ldc 18, 2) := by decide +kernel
theorem dX2_faultIn_37 : decode cX2_faultIn 37 = .ok (.goto 5, 3) := by decide +kernel
theorem dX2_faultIn_40 : decode cX2_faultIn 40 = .ok (.ldc 44, 2) := by decide +kernel
theorem dX2_faultIn_42 : decode cX2_faultIn 42 = .ok (.putfield 20, 3) := by decide +kernel
theorem dX2_faultIn_45 : decode cX2_faultIn 45 = .ok (.iconst 0, 1) := by decide +kernel
theorem dX2_faultIn_46 : decode cX2_faultIn 46 = .ok (.istore 4, 2) := by decide +kernel
theorem dX2_faultIn_48 : decode cX2_faultIn 48 = .ok (.iload 4, 2) := by decide +kernel
theorem dX2_faultIn_50 : decode cX2_faultIn 50 = .ok (.iload_n 2, 1) := by decide +kernel
theorem dX2_faultIn_51 : decode cX2_faultIn 51 = .ok (.if_icmp .ge 23, 3) := by decide +kernel
theorem dX2_faultIn_54 : decode cX2_faultIn 54 = .ok (.aload_n 0, 1) := by decide +kernel
theorem dX2_faultIn_55 : decode cX2_faultIn 55 = .ok (.aload_n 1, 1) := by decide +kernel
theorem dX2_faultIn_56 : decode cX2_faultIn 56 = .ok (.iload 4, 2) := by decide +kernel
theorem dX2_faultIn_58 : decode cX2_faultIn 58 = .ok (.iaload, 1) := by decide +kernel
theorem dX2_faultIn_59 : decode cX2_faultIn 59 = .ok (.invokevirtual 46, 3) := by decide +kernel
theorem dX2_faultIn_62 : decode cX2_faultIn 62 = .ok (.ifCond .ne 6, 3) := by decide +kernel
theorem dX2_faultIn_65 : decode cX2_faultIn 65 = .ok (.iload 4, 2) := by decide +kernel
theorem dX2_faultIn_67 : decode cX2_faultIn 67 = .ok (.ireturn, 1) := by decide +kernel
theorem dX2_faultIn_68 : decode cX2_faultIn 68 = .ok (.iinc 4 1, 3) := by decide +kernel
theorem dX2_faultIn_71 : decode cX2_faultIn 71 = .ok (.goto (-23), 3) := by decide +kernel
theorem dX2_faultIn_74 : decode cX2_faultIn 74 = .ok (.aload_n 0, 1) := by decide +kernel
theorem dX2_faultIn_75 : decode cX2_faultIn 75 = .ok (.getfield 37, 3) := by decide +kernel
theorem dX2_faultIn_78 : decode cX2_faultIn 78 = .ok (.ifCond .ne 10, 3) := by decide +kernel
theorem dX2_faultIn_81 : decode cX2_faultIn 81 = .ok (.aload_n 0, 1) := by decide +kernel
theorem dX2_faultIn_82 : decode cX2_faultIn 82 = .ok (.getfield 34, 3) := by decide +kernel
theorem dX2_faultIn_85 : decode cX2_faultIn 85 = .ok (.ifCond .le 5, 3) := by decide +kernel
theorem dX2_faultIn_88 : decode cX2_faultIn 88 = .ok (.iload_n 2, 1) := by decide +kernel
theorem dX2_faultIn_89 : decode cX2_faultIn 89 = .ok (.ireturn, 1) := by decide +kernel
theorem dX2_faultIn_90 : decode cX2_faultIn 90 = .ok (.aload_n 0, 1) := by decide +kernel
theorem dX2_faultIn_91 : decode cX2_faultIn 91 = .ok (.iconst 1, 1) := by decide +kernel
theorem dX2_faultIn_92 : decode cX2_faultIn 92 = .ok (.invokevirtual 50, 3) := by decide +kernel
theorem dX2_faultIn_95 : decode cX2_faultIn 95 = .ok (.iconst (-1), 1) := by decide +kernel
theorem dX2_faultIn_96 : decode cX2_faultIn 96 = .ok (.ireturn, 1) := by decide +kernel
theorem dX2_takes_0 : decode cX2_takes 0 = .ok (.iload_n 1, 1) := by decide +kernel
theorem dX2_takes_1 : decode cX2_takes 1 = .ok (.bipush 48, 2) := by decide +kernel
theorem dX2_takes_3 : decode cX2_takes 3 = .ok (.bipush 57, 2) := by decide +kernel
theorem dX2_takes_5 : decode cX2_takes 5 = .ok (.invokestatic 54, 3) := by decide +kernel
theorem dX2_takes_8 : decode cX2_takes 8 = .ok (.ifCond .eq 12, 3) := by decide +kernel
theorem dX2_takes_11 : decode cX2_takes 11 = .ok (.aload_n 0, 1) := by decide +kernel
theorem dX2_takes_12 : decode cX2_takes 12 = .ok (.iload_n 1, 1) := by decide +kernel
theorem dX2_takes_13 : decode cX2_takes 13 = .ok (.bipush 48, 2) := by decide +kernel
theorem dX2_takes_15 : decode cX2_takes 15 = .ok (.isub, 1) := by decide +kernel
theorem dX2_takes_16 : decode cX2_takes 16 = .ok (.invokevirtual 58, 3) := by decide +kernel
theorem dX2_takes_19 : decode cX2_takes 19 = .ok (.ireturn, 1) := by decide +kernel
theorem dX2_takes_20 : decode cX2_takes 20 = .ok (.aload_n 0, 1) := by decide +kernel
theorem dX2_takes_21 : decode cX2_takes 21 = .ok (.iconst 0, 1) := by decide +kernel
theorem dX2_takes_22 : decode cX2_takes 22 = .ok (.putfield 41, 3) := by decide +kernel
theorem dX2_takes_25 : decode cX2_takes 25 = .ok (.aload_n 0, 1) := by decide +kernel
theorem dX2_takes_26 : decode cX2_takes 26 = .ok (.getfield 37, 3) := by decide +kernel
theorem dX2_takes_29 : decode cX2_takes 29 = .ok (.ifCond .eq 29, 3) := by decide +kernel
theorem dX2_takes_32 : decode cX2_takes 32 = .ok (.iload_n 1, 1) := by decide +kernel
theorem dX2_takes_33 : decode cX2_takes 33 = .ok (.bipush 33, 2) := by decide +kernel
theorem dX2_takes_35 : decode cX2_takes 35 = .ok (.if_icmp .eq 9, 3) := by decide +kernel
theorem dX2_takes_38 : decode cX2_takes 38 = .ok (.iload_n 1, 1) := by decide +kernel
theorem dX2_takes_39 : decode cX2_takes 39 = .ok (.bipush 40, 2) := by decide +kernel
theorem dX2_takes_41 : decode cX2_takes 41 = .ok (.if_icmp .ne 11, 3) := by decide +kernel
theorem dX2_takes_44 : decode cX2_takes 44 = .ok (.aload_n 0, 1) := by decide +kernel
theorem dX2_takes_45 : decode cX2_takes 45 = .ok (.iload_n 1, 1) := by decide +kernel
theorem dX2_takes_46 : decode cX2_takes 46 = .ok (.invokevirtual 61, 3) := by decide +kernel
theorem dX2_takes_49 : decode cX2_takes 49 = .ok (.goto 8, 3) := by decide +kernel
theorem dX2_takes_52 : decode cX2_takes 52 = .ok (.aload_n 0, 1) := by decide +kernel
theorem dX2_takes_53 : decode cX2_takes 53 = .ok (.iload_n 1, 1) := by decide +kernel
theorem dX2_takes_54 : decode cX2_takes 54 = .ok (.invokevirtual 64, 3) := by decide +kernel
theorem dX2_takes_57 : decode cX2_takes 57 = .ok (.ireturn, 1) := by decide +kernel
theorem dX2_takes_58 : decode cX2_takes 58 = .ok (.iload_n 1, 1) := by decide +kernel
theorem dX2_takes_59 : decode cX2_takes 59 = .ok (.bipush 41, 2) := by decide +kernel
theorem dX2_takes_61 : decode cX2_takes 61 = .ok (.if_icmp .ne 10, 3) := by decide +kernel
theorem dX2_takes_64 : decode cX2_takes 64 = .ok (.aload_n 0, 1) := by decide +kernel
theorem dX2_takes_65 : decode cX2_takes 65 = .ok (.invokevirtual 67, 3) := by decide +kernel
theorem dX2_takes_68 : decode cX2_takes 68 = .ok (.goto 8, 3) := by decide +kernel
theorem dX2_takes_71 : decode cX2_takes 71 = .ok (.aload_n 0, 1) := by decide +kernel
theorem dX2_takes_72 : decode cX2_takes 72 = .ok (.iload_n 1, 1) := by decide +kernel
theorem dX2_takes_73 : decode cX2_takes 73 = .ok (.invokevirtual 71, 3) := by decide +kernel
theorem dX2_takes_76 : decode cX2_takes 76 = .ok (.ireturn, 1) := by decide +kernel
theorem dX2_takesDigit_0 : decode cX2_takesDigit 0 = .ok (.aload_n 0, 1) := by decide +kernel
theorem dX2_takesDigit_1 : decode cX2_takesDigit 1 = .ok (.getfield 37, 3) := by decide +kernel
theorem dX2_takesDigit_4 : decode cX2_takesDigit 4 = .ok (.ifCond .eq 20, 3) := by decide +kernel
theorem dX2_takesDigit_7 : decode cX2_takesDigit 7 = .ok (.aload_n 0, 1) := by decide +kernel
theorem dX2_takesDigit_8 : decode cX2_takesDigit 8 = .ok (.iload_n 1, 1) := by decide +kernel
theorem dX2_takesDigit_9 : decode cX2_takesDigit 9 = .ok (.invokevirtual 74, 3) := by decide +kernel
theorem dX2_takesDigit_12 : decode cX2_takesDigit 12 = .ok (.aload_n 0, 1) := by decide +kernel
theorem dX2_takesDigit_13 : decode cX2_takesDigit 13 = .ok (.iconst 0, 1) := by decide +kernel
theorem dX2_takesDigit_14 : decode cX2_takesDigit 14 = .ok (.putfield 37, 3) := by decide +kernel
theorem dX2_takesDigit_17 : decode cX2_takesDigit 17 = .ok (.aload_n 0, 1) := by decide +kernel
theorem dX2_takesDigit_18 : decode cX2_takesDigit 18 = .ok (.iconst 1, 1) := by decide +kernel
theorem dX2_takesDigit_19 : decode cX2_takesDigit 19 = .ok (.putfield 41, 3) := by decide +kernel
theorem dX2_takesDigit_22 : decode cX2_takesDigit 22 = .ok (.iconst 1, 1) := by decide +kernel
theorem dX2_takesDigit_23 : decode cX2_takesDigit 23 = .ok (.ireturn, 1) := by decide +kernel
theorem dX2_takesDigit_24 : decode cX2_takesDigit 24 = .ok (.aload_n 0, 1) := by decide +kernel
theorem dX2_takesDigit_25 : decode cX2_takesDigit 25 = .ok (.getfield 41, 3) := by decide +kernel
theorem dX2_takesDigit_28 : decode cX2_takesDigit 28 = .ok (.ifCond .eq 18, 3) := by decide +kernel
theorem dX2_takesDigit_31 : decode cX2_takesDigit 31 = .ok (.aload_n 0, 1) := by decide +kernel
theorem dX2_takesDigit_32 : decode cX2_takesDigit 32 = .ok (.getfield 41, 3) := by decide +kernel
theorem dX2_takesDigit_35 : decode cX2_takesDigit 35 = .ok (.iconst 4, 1) := by decide +kernel
theorem dX2_takesDigit_36 : decode cX2_takesDigit 36 = .ok (.if_icmp .eq 10, 3) := by decide +kernel
theorem dX2_takesDigit_39 : decode cX2_takesDigit 39 = .ok (.aload_n 0, 1) := by decide +kernel
theorem dX2_takesDigit_40 : decode cX2_takesDigit 40 = .ok (.getfield 24, 3) := by decide +kernel
theorem dX2_takesDigit_43 : decode cX2_takesDigit 43 = .ok (.ifCond .ne 5, 3) := by decide +kernel
theorem dX2_takesDigit_46 : decode cX2_takesDigit 46 = .ok (.iconst 0, 1) := by decide +kernel
theorem dX2_takesDigit_47 : decode cX2_takesDigit 47 = .ok (.ireturn, 1) := by decide +kernel
theorem dX2_takesDigit_48 : decode cX2_takesDigit 48 = .ok (.aload_n 0, 1) := by decide +kernel
theorem dX2_takesDigit_49 : decode cX2_takesDigit 49 = .ok (.getfield 9, 3) := by decide +kernel
theorem dX2_takesDigit_52 : decode cX2_takesDigit 52 = .ok (.aload_n 0, 1) := by decide +kernel
theorem dX2_takesDigit_53 : decode cX2_takesDigit 53 = .ok (.getfield 24, 3) := by decide +kernel
theorem dX2_takesDigit_56 : decode cX2_takesDigit 56 = .ok (.iconst 1, 1) := by decide +kernel
theorem dX2_takesDigit_57 : decode cX2_takesDigit 57 = .ok (.isub, 1) := by decide +kernel
theorem dX2_takesDigit_58 : decode cX2_takesDigit 58 = .ok (.aload_n 0, 1) := by decide +kernel
theorem dX2_takesDigit_59 : decode cX2_takesDigit 59 = .ok (.getfield 9, 3) := by decide +kernel
theorem dX2_takesDigit_62 : decode cX2_takesDigit 62 = .ok (.aload_n 0, 1) := by decide +kernel
theorem dX2_takesDigit_63 : decode cX2_takesDigit 63 = .ok (.getfield 24, 3) := by decide +kernel
theorem dX2_takesDigit_66 : decode cX2_takesDigit 66 = .ok (.iconst 1, 1) := by decide +kernel
theorem dX2_takesDigit_67 : decode cX2_takesDigit 67 = .ok (.isub, 1) := by decide +kernel
theorem dX2_takesDigit_68 : decode cX2_takesDigit 68 = .ok (.iaload, 1) := by decide +kernel
theorem dX2_takesDigit_69 : decode cX2_takesDigit 69 = .ok (.bipush 10, 2) := by decide +kernel
theorem dX2_takesDigit_71 : decode cX2_takesDigit 71 = .ok (.imul, 1) := by decide +kernel
theorem dX2_takesDigit_72 : decode cX2_takesDigit 72 = .ok (.iload_n 1, 1) := by decide +kernel
theorem dX2_takesDigit_73 : decode cX2_takesDigit 73 = .ok (.iadd, 1) := by decide +kernel
theorem dX2_takesDigit_74 : decode cX2_takesDigit 74 = .ok (.iastore, 1) := by decide +kernel
theorem dX2_takesDigit_75 : decode cX2_takesDigit 75 = .ok (.aload_n 0, 1) := by decide +kernel
theorem dX2_takesDigit_76 : decode cX2_takesDigit 76 = .ok (.dup, 1) := by decide +kernel
theorem dX2_takesDigit_77 : decode cX2_takesDigit 77 = .ok (.getfield 41, 3) := by decide +kernel
theorem dX2_takesDigit_80 : decode cX2_takesDigit 80 = .ok (.iconst 1, 1) := by decide +kernel
theorem dX2_takesDigit_81 : decode cX2_takesDigit 81 = .ok (.iadd, 1) := by decide +kernel
theorem dX2_takesDigit_82 : decode cX2_takesDigit 82 = .ok (.putfield 41, 3) := by decide +kernel
theorem dX2_takesDigit_85 : decode cX2_takesDigit 85 = .ok (.iconst 1, 1) := by decide +kernel
theorem dX2_takesDigit_86 : decode cX2_takesDigit 86 = .ok (.ireturn, 1) := by decide +kernel
theorem dX2_takesName_0 : decode cX2_takesName 0 = .ok (.aload_n 0, 1) := by decide +kernel
theorem dX2_takesName_1 : decode cX2_takesName 1 = .ok (.getfield 20, 3) := by decide +kernel
theorem dX2_takesName_4 : decode cX2_takesName 4 = .ok (.iload_n 1, 1) := by decide +kernel
theorem dX2_takesName_5 : decode cX2_takesName 5 = .ok (.i2c, 1) := by decide +kernel
theorem dX2_takesName_6 : decode cX2_takesName 6 = .ok (.invokevirtual 77, 3) := by decide +kernel
theorem dX2_takesName_9 : decode cX2_takesName 9 = .ok (.istore_n 2, 1) := by decide +kernel
theorem dX2_takesName_10 : decode cX2_takesName 10 = .ok (.iload_n 2, 1) := by decide +kernel
theorem dX2_takesName_11 : decode cX2_takesName 11 = .ok (.ifCond .ge 5, 3) := by decide +kernel
theorem dX2_takesName_14 : decode cX2_takesName 14 = .ok (.iconst 0, 1) := by decide +kernel
theorem dX2_takesName_15 : decode cX2_takesName 15 = .ok (.ireturn, 1) := by decide +kernel
theorem dX2_takesName_16 : decode cX2_takesName 16 = .ok (.aload_n 0, 1) := by decide +kernel
theorem dX2_takesName_17 : decode cX2_takesName 17 = .ok (.iconst (-1), 1) := by decide +kernel
theorem dX2_takesName_18 : decode cX2_takesName 18 = .ok (.iload_n 2, 1) := by decide +kernel
theorem dX2_takesName_19 : decode cX2_takesName 19 = .ok (.isub, 1) := by decide +kernel
theorem dX2_takesName_20 : decode cX2_takesName 20 = .ok (.invokevirtual 74, 3) := by decide +kernel
theorem dX2_takesName_23 : decode cX2_takesName 23 = .ok (.aload_n 0, 1) := by decide +kernel
theorem dX2_takesName_24 : decode cX2_takesName 24 = .ok (.iconst 0, 1) := by decide +kernel
theorem dX2_takesName_25 : decode cX2_takesName 25 = .ok (.putfield 37, 3) := by decide +kernel
theorem dX2_takesName_28 : decode cX2_takesName 28 = .ok (.iconst 1, 1) := by decide +kernel
theorem dX2_takesName_29 : decode cX2_takesName 29 = .ok (.ireturn, 1) := by decide +kernel
theorem dX2_opens_0 : decode cX2_opens 0 = .ok (.aload_n 0, 1) := by decide +kernel
theorem dX2_opens_1 : decode cX2_opens 1 = .ok (.getfield 31, 3) := by decide +kernel
theorem dX2_opens_4 : decode cX2_opens 4 = .ok (.iconst 5, 1) := by decide +kernel
theorem dX2_opens_5 : decode cX2_opens 5 = .ok (.if_icmp .ne 5, 3) := by decide +kernel
theorem dX2_opens_8 : decode cX2_opens 8 = .ok (.iconst 0, 1) := by decide +kernel
theorem dX2_opens_9 : decode cX2_opens 9 = .ok (.ireturn, 1) := by decide +kernel
theorem dX2_opens_10 : decode cX2_opens 10 = .ok (.aload_n 0, 1) := by decide +kernel
theorem dX2_opens_11 : decode cX2_opens 11 = .ok (.dup, 1) := by decide +kernel
theorem dX2_opens_12 : decode cX2_opens 12 = .ok (.getfield 31, 3) := by decide +kernel
theorem dX2_opens_15 : decode cX2_opens 15 = .ok (.iconst 1, 1) := by decide +kernel
theorem dX2_opens_16 : decode cX2_opens 16 = .ok (.iadd, 1) := by decide +kernel
theorem dX2_opens_17 : decode cX2_opens 17 = .ok (.putfield 31, 3) := by decide +kernel
theorem dX2_opens_20 : decode cX2_opens 20 = .ok (.iload_n 1, 1) := by decide +kernel
theorem dX2_opens_21 : decode cX2_opens 21 = .ok (.bipush 40, 2) := by decide +kernel
theorem dX2_opens_23 : decode cX2_opens 23 = .ok (.if_icmp .ne 13, 3) := by decide +kernel
theorem dX2_opens_26 : decode cX2_opens 26 = .ok (.aload_n 0, 1) := by decide +kernel
theorem dX2_opens_27 : decode cX2_opens 27 = .ok (.dup, 1) := by decide +kernel
theorem dX2_opens_28 : decode cX2_opens 28 = .ok (.getfield 34, 3) := by decide +kernel
theorem dX2_opens_31 : decode cX2_opens 31 = .ok (.iconst 1, 1) := by decide +kernel
theorem dX2_opens_32 : decode cX2_opens 32 = .ok (.iadd, 1) := by decide +kernel
theorem dX2_opens_33 : decode cX2_opens 33 = .ok (.putfield 34, 3) := by decide +kernel
theorem dX2_opens_36 : decode cX2_opens 36 = .ok (.aload_n 0, 1) := by decide +kernel
theorem dX2_opens_37 : decode cX2_opens 37 = .ok (.iload_n 1, 1) := by decide +kernel
theorem dX2_opens_38 : decode cX2_opens 38 = .ok (.invokevirtual 83, 3) := by decide +kernel
theorem dX2_opens_41 : decode cX2_opens 41 = .ok (.iconst 1, 1) := by decide +kernel
theorem dX2_opens_42 : decode cX2_opens 42 = .ok (.ireturn, 1) := by decide +kernel
theorem dX2_closes_0 : decode cX2_closes 0 = .ok (.aload_n 0, 1) := by decide +kernel
theorem dX2_closes_1 : decode cX2_closes 1 = .ok (.getfield 34, 3) := by decide +kernel
theorem dX2_closes_4 : decode cX2_closes 4 = .ok (.ifCond .ne 5, 3) := by decide +kernel
theorem dX2_closes_7 : decode cX2_closes 7 = .ok (.iconst 0, 1) := by decide +kernel
theorem dX2_closes_8 : decode cX2_closes 8 = .ok (.ireturn, 1) := by decide +kernel
theorem dX2_closes_9 : decode cX2_closes 9 = .ok (.aload_n 0, 1) := by decide +kernel
theorem dX2_closes_10 : decode cX2_closes 10 = .ok (.iconst 1, 1) := by decide +kernel
theorem dX2_closes_11 : decode cX2_closes 11 = .ok (.invokevirtual 50, 3) := by decide +kernel
theorem dX2_closes_14 : decode cX2_closes 14 = .ok (.aload_n 0, 1) := by decide +kernel
theorem dX2_closes_15 : decode cX2_closes 15 = .ok (.dup, 1) := by decide +kernel
theorem dX2_closes_16 : decode cX2_closes 16 = .ok (.getfield 28, 3) := by decide +kernel
theorem dX2_closes_19 : decode cX2_closes 19 = .ok (.iconst 1, 1) := by decide +kernel
theorem dX2_closes_20 : decode cX2_closes 20 = .ok (.isub, 1) := by decide +kernel
theorem dX2_closes_21 : decode cX2_closes 21 = .ok (.putfield 28, 3) := by decide +kernel
theorem dX2_closes_24 : decode cX2_closes 24 = .ok (.aload_n 0, 1) := by decide +kernel
theorem dX2_closes_25 : decode cX2_closes 25 = .ok (.dup, 1) := by decide +kernel
theorem dX2_closes_26 : decode cX2_closes 26 = .ok (.getfield 34, 3) := by decide +kernel
theorem dX2_closes_29 : decode cX2_closes 29 = .ok (.iconst 1, 1) := by decide +kernel
theorem dX2_closes_30 : decode cX2_closes 30 = .ok (.isub, 1) := by decide +kernel
theorem dX2_closes_31 : decode cX2_closes 31 = .ok (.putfield 34, 3) := by decide +kernel
theorem dX2_closes_34 : decode cX2_closes 34 = .ok (.aload_n 0, 1) := by decide +kernel
theorem dX2_closes_35 : decode cX2_closes 35 = .ok (.dup, 1) := by decide +kernel
theorem dX2_closes_36 : decode cX2_closes 36 = .ok (.getfield 31, 3) := by decide +kernel
theorem dX2_closes_39 : decode cX2_closes 39 = .ok (.iconst 1, 1) := by decide +kernel
theorem dX2_closes_40 : decode cX2_closes 40 = .ok (.isub, 1) := by decide +kernel
theorem dX2_closes_41 : decode cX2_closes 41 = .ok (.putfield 31, 3) := by decide +kernel
theorem dX2_closes_44 : decode cX2_closes 44 = .ok (.iconst 1, 1) := by decide +kernel
theorem dX2_closes_45 : decode cX2_closes 45 = .ok (.ireturn, 1) := by decide +kernel
theorem dX2_takesSign_0 : decode cX2_takesSign 0 = .ok (.iload_n 1, 1) := by decide +kernel
theorem dX2_takesSign_1 : decode cX2_takesSign 1 = .ok (.invokestatic 86, 3) := by decide +kernel
theorem dX2_takesSign_4 : decode cX2_takesSign 4 = .ok (.istore_n 2, 1) := by decide +kernel
theorem dX2_takesSign_5 : decode cX2_takesSign 5 = .ok (.iload_n 2, 1) := by decide +kernel
theorem dX2_takesSign_6 : decode cX2_takesSign 6 = .ok (.ifCond .ne 5, 3) := by decide +kernel
theorem dX2_takesSign_9 : decode cX2_takesSign 9 = .ok (.iconst 0, 1) := by decide +kernel
theorem dX2_takesSign_10 : decode cX2_takesSign 10 = .ok (.ireturn, 1) := by decide +kernel
theorem dX2_takesSign_11 : decode cX2_takesSign 11 = .ok (.aload_n 0, 1) := by decide +kernel
theorem dX2_takesSign_12 : decode cX2_takesSign 12 = .ok (.iload_n 2, 1) := by decide +kernel
theorem dX2_takesSign_13 : decode cX2_takesSign 13 = .ok (.iconst 3, 1) := by decide +kernel
theorem dX2_takesSign_14 : decode cX2_takesSign 14 = .ok (.if_icmp .ne 9, 3) := by decide +kernel
theorem dX2_takesSign_17 : decode cX2_takesSign 17 = .ok (.iload_n 2, 1) := by decide +kernel
theorem dX2_takesSign_18 : decode cX2_takesSign 18 = .ok (.iconst 1, 1) := by decide +kernel
theorem dX2_takesSign_19 : decode cX2_takesSign 19 = .ok (.iadd, 1) := by decide +kernel
theorem dX2_takesSign_20 : decode cX2_takesSign 20 = .ok (.goto 4, 3) := by decide +kernel
theorem dX2_takesSign_23 : decode cX2_takesSign 23 = .ok (.iload_n 2, 1) := by decide +kernel
theorem dX2_takesSign_24 : decode cX2_takesSign 24 = .ok (.invokevirtual 50, 3) := by decide +kernel
theorem dX2_takesSign_27 : decode cX2_takesSign 27 = .ok (.iload_n 2, 1) := by decide +kernel
theorem dX2_takesSign_28 : decode cX2_takesSign 28 = .ok (.iconst 3, 1) := by decide +kernel
theorem dX2_takesSign_29 : decode cX2_takesSign 29 = .ok (.if_icmp .ne 30, 3) := by decide +kernel
theorem dX2_takesSign_32 : decode cX2_takesSign 32 = .ok (.aload_n 0, 1) := by decide +kernel
theorem dX2_takesSign_33 : decode cX2_takesSign 33 = .ok (.getfield 28, 3) := by decide +kernel
theorem dX2_takesSign_36 : decode cX2_takesSign 36 = .ok (.ifCond .le 23, 3) := by decide +kernel
theorem dX2_takesSign_39 : decode cX2_takesSign 39 = .ok (.aload_n 0, 1) := by decide +kernel
theorem dX2_takesSign_40 : decode cX2_takesSign 40 = .ok (.getfield 15, 3) := by decide +kernel
theorem dX2_takesSign_43 : decode cX2_takesSign 43 = .ok (.aload_n 0, 1) := by decide +kernel
theorem dX2_takesSign_44 : decode cX2_takesSign 44 = .ok (.getfield 28, 3) := by decide +kernel
theorem dX2_takesSign_47 : decode cX2_takesSign 47 = .ok (.iconst 1, 1) := by decide +kernel
theorem dX2_takesSign_48 : decode cX2_takesSign 48 = .ok (.isub, 1) := by decide +kernel
theorem dX2_takesSign_49 : decode cX2_takesSign 49 = .ok (.iaload, 1) := by decide +kernel
theorem dX2_takesSign_50 : decode cX2_takesSign 50 = .ok (.invokestatic 86, 3) := by decide +kernel
theorem dX2_takesSign_53 : decode cX2_takesSign 53 = .ok (.iconst 3, 1) := by decide +kernel
theorem dX2_takesSign_54 : decode cX2_takesSign 54 = .ok (.if_icmp .ne 5, 3) := by decide +kernel
theorem dX2_takesSign_57 : decode cX2_takesSign 57 = .ok (.iconst 0, 1) := by decide +kernel
theorem dX2_takesSign_58 : decode cX2_takesSign 58 = .ok (.ireturn, 1) := by decide +kernel
theorem dX2_takesSign_59 : decode cX2_takesSign 59 = .ok (.aload_n 0, 1) := by decide +kernel
theorem dX2_takesSign_60 : decode cX2_takesSign 60 = .ok (.iload_n 1, 1) := by decide +kernel
theorem dX2_takesSign_61 : decode cX2_takesSign 61 = .ok (.invokevirtual 83, 3) := by decide +kernel
theorem dX2_takesSign_64 : decode cX2_takesSign 64 = .ok (.aload_n 0, 1) := by decide +kernel
theorem dX2_takesSign_65 : decode cX2_takesSign 65 = .ok (.iconst 1, 1) := by decide +kernel
theorem dX2_takesSign_66 : decode cX2_takesSign 66 = .ok (.putfield 37, 3) := by decide +kernel
theorem dX2_takesSign_69 : decode cX2_takesSign 69 = .ok (.iconst 1, 1) := by decide +kernel
theorem dX2_takesSign_70 : decode cX2_takesSign 70 = .ok (.ireturn, 1) := by decide +kernel
theorem dX2_release_0 : decode cX2_release 0 = .ok (.aload_n 0, 1) := by decide +kernel
theorem dX2_release_1 : decode cX2_release 1 = .ok (.getfield 28, 3) := by decide +kernel
theorem dX2_release_4 : decode cX2_release 4 = .ok (.iconst 1, 1) := by decide +kernel
theorem dX2_release_5 : decode cX2_release 5 = .ok (.isub, 1) := by decide +kernel
theorem dX2_release_6 : decode cX2_release 6 = .ok (.istore_n 2, 1) := by decide +kernel
theorem dX2_release_7 : decode cX2_release 7 = .ok (.iload_n 2, 1) := by decide +kernel
theorem dX2_release_8 : decode cX2_release 8 = .ok (.ifCond .lt 72, 3) := by decide +kernel
theorem dX2_release_11 : decode cX2_release 11 = .ok (.aload_n 0, 1) := by decide +kernel
theorem dX2_release_12 : decode cX2_release 12 = .ok (.getfield 15, 3) := by decide +kernel
theorem dX2_release_15 : decode cX2_release 15 = .ok (.iload_n 2, 1) := by decide +kernel
theorem dX2_release_16 : decode cX2_release 16 = .ok (.iaload, 1) := by decide +kernel
theorem dX2_release_17 : decode cX2_release 17 = .ok (.istore_n 3, 1) := by decide +kernel
theorem dX2_release_18 : decode cX2_release 18 = .ok (.iload_n 3, 1) := by decide +kernel
theorem dX2_release_19 : decode cX2_release 19 = .ok (.bipush 33, 2) := by decide +kernel
theorem dX2_release_21 : decode cX2_release 21 = .ok (.if_icmp .ne 8, 3) := by decide +kernel
theorem dX2_release_24 : decode cX2_release 24 = .ok (.bipush 6, 2) := by decide +kernel
theorem dX2_release_26 : decode cX2_release 26 = .ok (.goto 7, 3) := by decide +kernel
theorem dX2_release_29 : decode cX2_release 29 = .ok (.iload_n 3, 1) := by decide +kernel
theorem dX2_release_30 : decode cX2_release 30 = .ok (.invokestatic 86, 3) := by decide +kernel
theorem dX2_release_33 : decode cX2_release 33 = .ok (.istore 4, 2) := by decide +kernel
theorem dX2_release_35 : decode cX2_release 35 = .ok (.iload 4, 2) := by decide +kernel
theorem dX2_release_37 : decode cX2_release 37 = .ok (.iload_n 1, 1) := by decide +kernel
theorem dX2_release_38 : decode cX2_release 38 = .ok (.if_icmp .ge 4, 3) := by decide +kernel
theorem dX2_release_41 : decode cX2_release 41 = .ok (.return_, 1) := by decide +kernel
theorem dX2_release_42 : decode cX2_release 42 = .ok (.iload_n 3, 1) := by decide +kernel
theorem dX2_release_43 : decode cX2_release 43 = .ok (.bipush 33, 2) := by decide +kernel
theorem dX2_release_45 : decode cX2_release 45 = .ok (.if_icmp .ne 13, 3) := by decide +kernel
theorem dX2_release_48 : decode cX2_release 48 = .ok (.aload_n 0, 1) := by decide +kernel
theorem dX2_release_49 : decode cX2_release 49 = .ok (.dup, 1) := by decide +kernel
theorem dX2_release_50 : decode cX2_release 50 = .ok (.getfield 31, 3) := by decide +kernel
theorem dX2_release_53 : decode cX2_release 53 = .ok (.iconst 1, 1) := by decide +kernel
theorem dX2_release_54 : decode cX2_release 54 = .ok (.isub, 1) := by decide +kernel
theorem dX2_release_55 : decode cX2_release 55 = .ok (.putfield 31, 3) := by decide +kernel
theorem dX2_release_58 : decode cX2_release 58 = .ok (.aload_n 0, 1) := by decide +kernel
theorem dX2_release_59 : decode cX2_release 59 = .ok (.iload_n 3, 1) := by decide +kernel
theorem dX2_release_60 : decode cX2_release 60 = .ok (.ineg, 1) := by decide +kernel
theorem dX2_release_61 : decode cX2_release 61 = .ok (.invokevirtual 74, 3) := by decide +kernel
theorem dX2_release_64 : decode cX2_release 64 = .ok (.aload_n 0, 1) := by decide +kernel
theorem dX2_release_65 : decode cX2_release 65 = .ok (.dup, 1) := by decide +kernel
theorem dX2_release_66 : decode cX2_release 66 = .ok (.getfield 28, 3) := by decide +kernel
theorem dX2_release_69 : decode cX2_release 69 = .ok (.iconst 1, 1) := by decide +kernel
theorem dX2_release_70 : decode cX2_release 70 = .ok (.isub, 1) := by decide +kernel
theorem dX2_release_71 : decode cX2_release 71 = .ok (.putfield 28, 3) := by decide +kernel
theorem dX2_release_74 : decode cX2_release 74 = .ok (.iinc 2 (-1), 3) := by decide +kernel
theorem dX2_release_77 : decode cX2_release 77 = .ok (.goto (-70), 3) := by decide +kernel
theorem dX2_release_80 : decode cX2_release 80 = .ok (.return_, 1) := by decide +kernel
theorem dX2_emit_0 : decode cX2_emit 0 = .ok (.aload_n 0, 1) := by decide +kernel
theorem dX2_emit_1 : decode cX2_emit 1 = .ok (.getfield 24, 3) := by decide +kernel
theorem dX2_emit_4 : decode cX2_emit 4 = .ok (.aload_n 0, 1) := by decide +kernel
theorem dX2_emit_5 : decode cX2_emit 5 = .ok (.getfield 9, 3) := by decide +kernel
theorem dX2_emit_8 : decode cX2_emit 8 = .ok (.arraylength, 1) := by decide +kernel
theorem dX2_emit_9 : decode cX2_emit 9 = .ok (.if_icmp .ge 23, 3) := by decide +kernel
theorem dX2_emit_12 : decode cX2_emit 12 = .ok (.aload_n 0, 1) := by decide +kernel
theorem dX2_emit_13 : decode cX2_emit 13 = .ok (.getfield 9, 3) := by decide +kernel
theorem dX2_emit_16 : decode cX2_emit 16 = .ok (.aload_n 0, 1) := by decide +kernel
theorem dX2_emit_17 : decode cX2_emit 17 = .ok (.getfield 24, 3) := by decide +kernel
theorem dX2_emit_20 : decode cX2_emit 20 = .ok (.iload_n 1, 1) := by decide +kernel
theorem dX2_emit_21 : decode cX2_emit 21 = .ok (.iastore, 1) := by decide +kernel
theorem dX2_emit_22 : decode cX2_emit 22 = .ok (.aload_n 0, 1) := by decide +kernel
theorem dX2_emit_23 : decode cX2_emit 23 = .ok (.dup, 1) := by decide +kernel
theorem dX2_emit_24 : decode cX2_emit 24 = .ok (.getfield 24, 3) := by decide +kernel
theorem dX2_emit_27 : decode cX2_emit 27 = .ok (.iconst 1, 1) := by decide +kernel
theorem dX2_emit_28 : decode cX2_emit 28 = .ok (.iadd, 1) := by decide +kernel
theorem dX2_emit_29 : decode cX2_emit 29 = .ok (.putfield 24, 3) := by decide +kernel
theorem dX2_emit_32 : decode cX2_emit 32 = .ok (.return_, 1) := by decide +kernel
theorem dX2_push_0 : decode cX2_push 0 = .ok (.aload_n 0, 1) := by decide +kernel
theorem dX2_push_1 : decode cX2_push 1 = .ok (.getfield 28, 3) := by decide +kernel
theorem dX2_push_4 : decode cX2_push 4 = .ok (.aload_n 0, 1) := by decide +kernel
theorem dX2_push_5 : decode cX2_push 5 = .ok (.getfield 15, 3) := by decide +kernel
theorem dX2_push_8 : decode cX2_push 8 = .ok (.arraylength, 1) := by decide +kernel
theorem dX2_push_9 : decode cX2_push 9 = .ok (.if_icmp .ge 23, 3) := by decide +kernel
theorem dX2_push_12 : decode cX2_push 12 = .ok (.aload_n 0, 1) := by decide +kernel
theorem dX2_push_13 : decode cX2_push 13 = .ok (.getfield 15, 3) := by decide +kernel
theorem dX2_push_16 : decode cX2_push 16 = .ok (.aload_n 0, 1) := by decide +kernel
theorem dX2_push_17 : decode cX2_push 17 = .ok (.getfield 28, 3) := by decide +kernel
theorem dX2_push_20 : decode cX2_push 20 = .ok (.iload_n 1, 1) := by decide +kernel
theorem dX2_push_21 : decode cX2_push 21 = .ok (.iastore, 1) := by decide +kernel
theorem dX2_push_22 : decode cX2_push 22 = .ok (.aload_n 0, 1) := by decide +kernel
theorem dX2_push_23 : decode cX2_push 23 = .ok (.dup, 1) := by decide +kernel
theorem dX2_push_24 : decode cX2_push 24 = .ok (.getfield 28, 3) := by decide +kernel
theorem dX2_push_27 : decode cX2_push 27 = .ok (.iconst 1, 1) := by decide +kernel
theorem dX2_push_28 : decode cX2_push 28 = .ok (.iadd, 1) := by decide +kernel
theorem dX2_push_29 : decode cX2_push 29 = .ok (.putfield 28, 3) := by decide +kernel
theorem dX2_push_32 : decode cX2_push 32 = .ok (.return_, 1) := by decide +kernel
theorem dX2_levelOf_0 : decode cX2_levelOf 0 = .ok (.iload_n 0, 1) := by decide +kernel
theorem dX2_levelOf_1 : decode cX2_levelOf 1 = .ok (.lookupswitch 101 #[(37, 99), (38, 93), (42, 99), (43, 97), (45, 97), (47, 99), (60, 95), (61, 95), (62, 95), (124, 91)], 91) := by decide +kernel
theorem dX2_levelOf_92 : decode cX2_levelOf 92 = .ok (.iconst 1, 1) := by decide +kernel
theorem dX2_levelOf_93 : decode cX2_levelOf 93 = .ok (.ireturn, 1) := by decide +kernel
theorem dX2_levelOf_94 : decode cX2_levelOf 94 = .ok (.iconst 2, 1) := by decide +kernel
theorem dX2_levelOf_95 : decode cX2_levelOf 95 = .ok (.ireturn, 1) := by decide +kernel
theorem dX2_levelOf_96 : decode cX2_levelOf 96 = .ok (.iconst 3, 1) := by decide +kernel
theorem dX2_levelOf_97 : decode cX2_levelOf 97 = .ok (.ireturn, 1) := by decide +kernel
theorem dX2_levelOf_98 : decode cX2_levelOf 98 = .ok (.iconst 4, 1) := by decide +kernel
theorem dX2_levelOf_99 : decode cX2_levelOf 99 = .ok (.ireturn, 1) := by decide +kernel
theorem dX2_levelOf_100 : decode cX2_levelOf 100 = .ok (.iconst 5, 1) := by decide +kernel
theorem dX2_levelOf_101 : decode cX2_levelOf 101 = .ok (.ireturn, 1) := by decide +kernel
theorem dX2_levelOf_102 : decode cX2_levelOf 102 = .ok (.iconst 0, 1) := by decide +kernel
theorem dX2_levelOf_103 : decode cX2_levelOf 103 = .ok (.ireturn, 1) := by decide +kernel
theorem dX3_init_0 : decode cX3_init 0 = .ok (.aload_n 0, 1) := by decide +kernel
theorem dX3_init_1 : decode cX3_init 1 = .ok (.invokespecial 3, 3) := by decide +kernel
theorem dX3_init_4 : decode cX3_init 4 = .ok (.aload_n 0, 1) := by decide +kernel
theorem dX3_init_5 : decode cX3_init 5 = .ok (.bipush 6, 2) := by decide +kernel
theorem dX3_init_7 : decode cX3_init 7 = .ok (.newarray .int, 2) := by decide +kernel
theorem dX3_init_9 : decode cX3_init 9 = .ok (.putfield 9, 3) := by decide +kernel
theorem dX3_init_12 : decode cX3_init 12 = .ok (.aload_n 0, 1) := by decide +kernel
theorem dX3_init_13 : decode cX3_init 13 = .ok (.sipush 360, 3) := by decide +kernel
theorem dX3_init_16 : decode cX3_init 16 = .ok (.newarray .int, 2) := by decide +kernel
theorem dX3_init_18 : decode cX3_init 18 = .ok (.putfield 15, 3) := by decide +kernel
theorem dX3_init_21 : decode cX3_init 21 = .ok (.return_, 1) := by decide +kernel
theorem dX3_tryAll_0 : decode cX3_tryAll 0 = .ok (.aload_n 0, 1) := by decide +kernel
theorem dX3_tryAll_1 : decode cX3_tryAll 1 = .ok (.iload_n 2, 1) := by decide +kernel
theorem dX3_tryAll_2 : decode cX3_tryAll 2 = .ok (.putfield 18, 3) := by decide +kernel
theorem dX3_tryAll_5 : decode cX3_tryAll 5 = .ok (.aload_n 3, 1) := by decide +kernel
theorem dX3_tryAll_6 : decode cX3_tryAll 6 = .ok (.iconst 0, 1) := by decide +kernel
theorem dX3_tryAll_7 : decode cX3_tryAll 7 = .ok (.aload_n 0, 1) := by decide +kernel
theorem dX3_tryAll_8 : decode cX3_tryAll 8 = .ok (.getfield 9, 3) := by decide +kernel
theorem dX3_tryAll_11 : decode cX3_tryAll 11 = .ok (.iconst 0, 1) := by decide +kernel
theorem dX3_tryAll_12 : decode cX3_tryAll 12 = .ok (.bipush 6, 2) := by decide +kernel
theorem dX3_tryAll_14 : decode cX3_tryAll 14 = .ok (.invokestatic 22, 3) := by decide +kernel
theorem dX3_tryAll_17 : decode cX3_tryAll 17 = .ok (.aload_n 0, 1) := by decide +kernel
theorem dX3_tryAll_18 : decode cX3_tryAll 18 = .ok (.iconst 0, 1) := by decide +kernel
theorem dX3_tryAll_19 : decode cX3_tryAll 19 = .ok (.putfield 28, 3) := by decide +kernel
theorem dX3_tryAll_22 : decode cX3_tryAll 22 = .ok (.aload_n 0, 1) := by decide +kernel
theorem dX3_tryAll_23 : decode cX3_tryAll 23 = .ok (.iconst (-1), 1) := by decide +kernel
theorem dX3_tryAll_24 : decode cX3_tryAll 24 = .ok (.putfield 31, 3) := by decide +kernel
theorem dX3_tryAll_27 : decode cX3_tryAll 27 = .ok (.aload_n 0, 1) := by decide +kernel
theorem dX3_tryAll_28 : decode cX3_tryAll 28 = .ok (.iconst (-1), 1) := by decide +kernel
theorem dX3_tryAll_29 : decode cX3_tryAll 29 = .ok (.putfield 34, 3) := by decide +kernel
theorem dX3_tryAll_32 : decode cX3_tryAll 32 = .ok (.aload_n 0, 1) := by decide +kernel
theorem dX3_tryAll_33 : decode cX3_tryAll 33 = .ok (.iconst 0, 1) := by decide +kernel
theorem dX3_tryAll_34 : decode cX3_tryAll 34 = .ok (.putfield 37, 3) := by decide +kernel
theorem dX3_tryAll_37 : decode cX3_tryAll 37 = .ok (.aload_n 0, 1) := by decide +kernel
theorem dX3_tryAll_38 : decode cX3_tryAll 38 = .ok (.aload_n 1, 1) := by decide +kernel
theorem dX3_tryAll_39 : decode cX3_tryAll 39 = .ok (.iconst 0, 1) := by decide +kernel
theorem dX3_tryAll_40 : decode cX3_tryAll 40 = .ok (.iconst 0, 1) := by decide +kernel
theorem dX3_tryAll_41 : decode cX3_tryAll 41 = .ok (.invokevirtual 40, 3) := by decide +kernel
theorem dX3_tryAll_44 : decode cX3_tryAll 44 = .ok (.return_, 1) := by decide +kernel
theorem dX3_tryFrom_0 : decode cX3_tryFrom 0 = .ok (.aload_n 1, 1) := by decide +kernel
theorem dX3_tryFrom_1 : decode cX3_tryFrom 1 = .ok (.iload_n 2, 1) := by decide +kernel
theorem dX3_tryFrom_2 : decode cX3_tryFrom 2 = .ok (.invokevirtual 44, 3) := by decide +kernel
theorem dX3_tryFrom_5 : decode cX3_tryFrom 5 = .ok (.ifCond .ne 10, 3) := by decide +kernel
theorem dX3_tryFrom_8 : decode cX3_tryFrom 8 = .ok (.aload_n 0, 1) := by decide +kernel
theorem dX3_tryFrom_9 : decode cX3_tryFrom 9 = .ok (.aload_n 1, 1) := by decide +kernel
theorem dX3_tryFrom_10 : decode cX3_tryFrom 10 = .ok (.iload_n 3, 1) := by decide +kernel
theorem dX3_tryFrom_11 : decode cX3_tryFrom 11 = .ok (.invokevirtual 50, 3) := by decide +kernel
theorem dX3_tryFrom_14 : decode cX3_tryFrom 14 = .ok (.return_, 1) := by decide +kernel
theorem dX3_tryFrom_15 : decode cX3_tryFrom 15 = .ok (.aload_n 0, 1) := by decide +kernel
theorem dX3_tryFrom_16 : decode cX3_tryFrom 16 = .ok (.aload_n 1, 1) := by decide +kernel
theorem dX3_tryFrom_17 : decode cX3_tryFrom 17 = .ok (.iload_n 2, 1) := by decide +kernel
theorem dX3_tryFrom_18 : decode cX3_tryFrom 18 = .ok (.iconst 1, 1) := by decide +kernel
theorem dX3_tryFrom_19 : decode cX3_tryFrom 19 = .ok (.iadd, 1) := by decide +kernel
theorem dX3_tryFrom_20 : decode cX3_tryFrom 20 = .ok (.iload_n 3, 1) := by decide +kernel
theorem dX3_tryFrom_21 : decode cX3_tryFrom 21 = .ok (.invokevirtual 40, 3) := by decide +kernel
theorem dX3_tryFrom_24 : decode cX3_tryFrom 24 = .ok (.iconst 0, 1) := by decide +kernel
theorem dX3_tryFrom_25 : decode cX3_tryFrom 25 = .ok (.istore 4, 2) := by decide +kernel
theorem dX3_tryFrom_27 : decode cX3_tryFrom 27 = .ok (.iload 4, 2) := by decide +kernel
theorem dX3_tryFrom_29 : decode cX3_tryFrom 29 = .ok (.aload_n 1, 1) := by decide +kernel
theorem dX3_tryFrom_30 : decode cX3_tryFrom 30 = .ok (.getfield 54, 3) := by decide +kernel
theorem dX3_tryFrom_33 : decode cX3_tryFrom 33 = .ok (.if_icmp .ge 35, 3) := by decide +kernel
theorem dX3_tryFrom_36 : decode cX3_tryFrom 36 = .ok (.aload_n 1, 1) := by decide +kernel
theorem dX3_tryFrom_37 : decode cX3_tryFrom 37 = .ok (.getfield 57, 3) := by decide +kernel
theorem dX3_tryFrom_40 : decode cX3_tryFrom 40 = .ok (.iload 4, 2) := by decide +kernel
theorem dX3_tryFrom_42 : decode cX3_tryFrom 42 = .ok (.aaload, 1) := by decide +kernel
theorem dX3_tryFrom_43 : decode cX3_tryFrom 43 = .ok (.getfield 61, 3) := by decide +kernel
theorem dX3_tryFrom_46 : decode cX3_tryFrom 46 = .ok (.iconst 0, 1) := by decide +kernel
theorem dX3_tryFrom_47 : decode cX3_tryFrom 47 = .ok (.aload_n 0, 1) := by decide +kernel
theorem dX3_tryFrom_48 : decode cX3_tryFrom 48 = .ok (.getfield 15, 3) := by decide +kernel
theorem dX3_tryFrom_51 : decode cX3_tryFrom 51 = .ok (.iload_n 2, 1) := by decide +kernel
theorem dX3_tryFrom_52 : decode cX3_tryFrom 52 = .ok (.iload 4, 2) := by decide +kernel
theorem dX3_tryFrom_54 : decode cX3_tryFrom 54 = .ok (.invokestatic 66, 3) := by decide +kernel
theorem dX3_tryFrom_57 : decode cX3_tryFrom 57 = .ok (.bipush 6, 2) := by decide +kernel
theorem dX3_tryFrom_59 : decode cX3_tryFrom 59 = .ok (.invokestatic 22, 3) := by decide +kernel
theorem dX3_tryFrom_62 : decode cX3_tryFrom 62 = .ok (.iinc 4 1, 3) := by decide +kernel
theorem dX3_tryFrom_65 : decode cX3_tryFrom 65 = .ok (.goto (-38), 3) := by decide +kernel
theorem dX3_tryFrom_68 : decode cX3_tryFrom 68 = .ok (.aload_n 1, 1) := by decide +kernel
theorem dX3_tryFrom_69 : decode cX3_tryFrom 69 = .ok (.iload_n 2, 1) := by decide +kernel
theorem dX3_tryFrom_70 : decode cX3_tryFrom 70 = .ok (.invokevirtual 70, 3) := by decide +kernel
theorem dX3_tryFrom_73 : decode cX3_tryFrom 73 = .ok (.pop, 1) := by decide +kernel
theorem dX3_tryFrom_74 : decode cX3_tryFrom 74 = .ok (.aload_n 0, 1) := by decide +kernel
theorem dX3_tryFrom_75 : decode cX3_tryFrom 75 = .ok (.aload_n 1, 1) := by decide +kernel
theorem dX3_tryFrom_76 : decode cX3_tryFrom 76 = .ok (.iload_n 2, 1) := by decide +kernel
theorem dX3_tryFrom_77 : decode cX3_tryFrom 77 = .ok (.iconst 1, 1) := by decide +kernel
theorem dX3_tryFrom_78 : decode cX3_tryFrom 78 = .ok (.iadd, 1) := by decide +kernel
theorem dX3_tryFrom_79 : decode cX3_tryFrom 79 = .ok (.iload_n 3, 1) := by decide +kernel
theorem dX3_tryFrom_80 : decode cX3_tryFrom 80 = .ok (.iconst 1, 1) := by decide +kernel
theorem dX3_tryFrom_81 : decode cX3_tryFrom 81 = .ok (.iload_n 2, 1) := by decide +kernel
theorem dX3_tryFrom_82 : decode cX3_tryFrom 82 = .ok (.ishl, 1) := by decide +kernel
theorem dX3_tryFrom_83 : decode cX3_tryFrom 83 = .ok (.ior, 1) := by decide +kernel
theorem dX3_tryFrom_84 : decode cX3_tryFrom 84 = .ok (.invokevirtual 40, 3) := by decide +kernel
theorem dX3_tryFrom_87 : decode cX3_tryFrom 87 = .ok (.iconst 0, 1) := by decide +kernel
theorem dX3_tryFrom_88 : decode cX3_tryFrom 88 = .ok (.istore 4, 2) := by decide +kernel
theorem dX3_tryFrom_90 : decode cX3_tryFrom 90 = .ok (.iload 4, 2) := by decide +kernel
theorem dX3_tryFrom_92 : decode cX3_tryFrom 92 = .ok (.aload_n 1, 1) := by decide +kernel
theorem dX3_tryFrom_93 : decode cX3_tryFrom 93 = .ok (.getfield 54, 3) := by decide +kernel
theorem dX3_tryFrom_96 : decode cX3_tryFrom 96 = .ok (.if_icmp .ge 35, 3) := by decide +kernel
theorem dX3_tryFrom_99 : decode cX3_tryFrom 99 = .ok (.aload_n 0, 1) := by decide +kernel
theorem dX3_tryFrom_100 : decode cX3_tryFrom 100 = .ok (.getfield 15, 3) := by decide +kernel
theorem dX3_tryFrom_103 : decode cX3_tryFrom 103 = .ok (.iload_n 2, 1) := by decide +kernel
theorem dX3_tryFrom_104 : decode cX3_tryFrom 104 = .ok (.iload 4, 2) := by decide +kernel
theorem dX3_tryFrom_106 : decode cX3_tryFrom 106 = .ok (.invokestatic 66, 3) := by decide +kernel
theorem dX3_tryFrom_109 : decode cX3_tryFrom 109 = .ok (.aload_n 1, 1) := by decide +kernel
theorem dX3_tryFrom_110 : decode cX3_tryFrom 110 = .ok (.getfield 57, 3) := by decide +kernel
theorem dX3_tryFrom_113 : decode cX3_tryFrom 113 = .ok (.iload 4, 2) := by decide +kernel
theorem dX3_tryFrom_115 : decode cX3_tryFrom 115 = .ok (.aaload, 1) := by decide +kernel
theorem dX3_tryFrom_116 : decode cX3_tryFrom 116 = .ok (.getfield 61, 3) := by decide +kernel
theorem dX3_tryFrom_119 : decode cX3_tryFrom 119 = .ok (.iconst 0, 1) := by decide +kernel
theorem dX3_tryFrom_120 : decode cX3_tryFrom 120 = .ok (.bipush 6, 2) := by decide +kernel
theorem dX3_tryFrom_122 : decode cX3_tryFrom 122 = .ok (.invokestatic 22, 3) := by decide +kernel
theorem dX3_tryFrom_125 : decode cX3_tryFrom 125 = .ok (.iinc 4 1, 3) := by decide +kernel
theorem dX3_tryFrom_128 : decode cX3_tryFrom 128 = .ok (.goto (-38), 3) := by decide +kernel
theorem dX3_tryFrom_131 : decode cX3_tryFrom 131 = .ok (.return_, 1) := by decide +kernel
theorem dX3_startOf_0 : decode cX3_startOf 0 = .ok (.iload_n 0, 1) := by decide +kernel
theorem dX3_startOf_1 : decode cX3_startOf 1 = .ok (.bipush 6, 2) := by decide +kernel
theorem dX3_startOf_3 : decode cX3_startOf 3 = .ok (.imul, 1) := by decide +kernel
theorem dX3_startOf_4 : decode cX3_startOf 4 = .ok (.iload_n 1, 1) := by decide +kernel
theorem dX3_startOf_5 : decode cX3_startOf 5 = .ok (.iadd, 1) := by decide +kernel
theorem dX3_startOf_6 : decode cX3_startOf 6 = .ok (.bipush 6, 2) := by decide +kernel
theorem dX3_startOf_8 : decode cX3_startOf 8 = .ok (.imul, 1) := by decide +kernel
theorem dX3_startOf_9 : decode cX3_startOf 9 = .ok (.ireturn, 1) := by decide +kernel
theorem dX3_judgeSet_0 : decode cX3_judgeSet 0 = .ok (.iconst 0, 1) := by decide +kernel
theorem dX3_judgeSet_1 : decode cX3_judgeSet 1 = .ok (.istore_n 3, 1) := by decide +kernel
theorem dX3_judgeSet_2 : decode cX3_judgeSet 2 = .ok (.iload_n 3, 1) := by decide +kernel
theorem dX3_judgeSet_3 : decode cX3_judgeSet 3 = .ok (.bipush 6, 2) := by decide +kernel
theorem dX3_judgeSet_5 : decode cX3_judgeSet 5 = .ok (.if_icmp .ge 33, 3) := by decide +kernel
theorem dX3_judgeSet_8 : decode cX3_judgeSet 8 = .ok (.aload_n 1, 1) := by decide +kernel
theorem dX3_judgeSet_9 : decode cX3_judgeSet 9 = .ok (.getfield 57, 3) := by decide +kernel
theorem dX3_judgeSet_12 : decode cX3_judgeSet 12 = .ok (.aload_n 0, 1) := by decide +kernel
theorem dX3_judgeSet_13 : decode cX3_judgeSet 13 = .ok (.getfield 18, 3) := by decide +kernel
theorem dX3_judgeSet_16 : decode cX3_judgeSet 16 = .ok (.aaload, 1) := by decide +kernel
theorem dX3_judgeSet_17 : decode cX3_judgeSet 17 = .ok (.getfield 61, 3) := by decide +kernel
theorem dX3_judgeSet_20 : decode cX3_judgeSet 20 = .ok (.iload_n 3, 1) := by decide +kernel
theorem dX3_judgeSet_21 : decode cX3_judgeSet 21 = .ok (.iaload, 1) := by decide +kernel
theorem dX3_judgeSet_22 : decode cX3_judgeSet 22 = .ok (.aload_n 0, 1) := by decide +kernel
theorem dX3_judgeSet_23 : decode cX3_judgeSet 23 = .ok (.getfield 9, 3) := by decide +kernel
theorem dX3_judgeSet_26 : decode cX3_judgeSet 26 = .ok (.iload_n 3, 1) := by decide +kernel
theorem dX3_judgeSet_27 : decode cX3_judgeSet 27 = .ok (.iaload, 1) := by decide +kernel
theorem dX3_judgeSet_28 : decode cX3_judgeSet 28 = .ok (.if_icmp .eq 4, 3) := by decide +kernel
theorem dX3_judgeSet_31 : decode cX3_judgeSet 31 = .ok (.return_, 1) := by decide +kernel
theorem dX3_judgeSet_32 : decode cX3_judgeSet 32 = .ok (.iinc 3 1, 3) := by decide +kernel
theorem dX3_judgeSet_35 : decode cX3_judgeSet 35 = .ok (.goto (-33), 3) := by decide +kernel
theorem dX3_judgeSet_38 : decode cX3_judgeSet 38 = .ok (.aload_n 0, 1) := by decide +kernel
theorem dX3_judgeSet_39 : decode cX3_judgeSet 39 = .ok (.aload_n 0, 1) := by decide +kernel
theorem dX3_judgeSet_40 : decode cX3_judgeSet 40 = .ok (.getfield 28, 3) := by decide +kernel
theorem dX3_judgeSet_43 : decode cX3_judgeSet 43 = .ok (.ifCond .ne 7, 3) := by decide +kernel
theorem dX3_judgeSet_46 : decode cX3_judgeSet 46 = .ok (.iload_n 2, 1) := by decide +kernel
theorem dX3_judgeSet_47 : decode cX3_judgeSet 47 = .ok (.goto 11, 3) := by decide +kernel
theorem dX3_judgeSet_50 : decode cX3_judgeSet 50 = .ok (.aload_n 0, 1) := by decide +kernel
theorem dX3_judgeSet_51 : decode cX3_judgeSet 51 = .ok (.getfield 31, 3) := by decide +kernel
theorem dX3_judgeSet_54 : decode cX3_judgeSet 54 = .ok (.iload_n 2, 1) := by decide +kernel
theorem dX3_judgeSet_55 : decode cX3_judgeSet 55 = .ok (.invokestatic 74, 3) := by decide +kernel
theorem dX3_judgeSet_58 : decode cX3_judgeSet 58 = .ok (.putfield 31, 3) := by decide +kernel
theorem dX3_judgeSet_61 : decode cX3_judgeSet 61 = .ok (.aload_n 0, 1) := by decide +kernel
theorem dX3_judgeSet_62 : decode cX3_judgeSet 62 = .ok (.dup, 1) := by decide +kernel
theorem dX3_judgeSet_63 : decode cX3_judgeSet 63 = .ok (.getfield 28, 3) := by decide +kernel
theorem dX3_judgeSet_66 : decode cX3_judgeSet 66 = .ok (.iconst 1, 1) := by decide +kernel
theorem dX3_judgeSet_67 : decode cX3_judgeSet 67 = .ok (.iadd, 1) := by decide +kernel
theorem dX3_judgeSet_68 : decode cX3_judgeSet 68 = .ok (.putfield 28, 3) := by decide +kernel
theorem dX3_judgeSet_71 : decode cX3_judgeSet 71 = .ok (.aload_n 0, 1) := by decide +kernel
theorem dX3_judgeSet_72 : decode cX3_judgeSet 72 = .ok (.dup, 1) := by decide +kernel
theorem dX3_judgeSet_73 : decode cX3_judgeSet 73 = .ok (.getfield 34, 3) := by decide +kernel
theorem dX3_judgeSet_76 : decode cX3_judgeSet 76 = .ok (.iload_n 2, 1) := by decide +kernel
theorem dX3_judgeSet_77 : decode cX3_judgeSet 77 = .ok (.iand, 1) := by decide +kernel
theorem dX3_judgeSet_78 : decode cX3_judgeSet 78 = .ok (.putfield 34, 3) := by decide +kernel
theorem dX3_judgeSet_81 : decode cX3_judgeSet 81 = .ok (.aload_n 0, 1) := by decide +kernel
theorem dX3_judgeSet_82 : decode cX3_judgeSet 82 = .ok (.dup, 1) := by decide +kernel
theorem dX3_judgeSet_83 : decode cX3_judgeSet 83 = .ok (.getfield 37, 3) := by decide +kernel
theorem dX3_judgeSet_86 : decode cX3_judgeSet 86 = .ok (.iload_n 2, 1) := by decide +kernel
theorem dX3_judgeSet_87 : decode cX3_judgeSet 87 = .ok (.ior, 1) := by decide +kernel
theorem dX3_judgeSet_88 : decode cX3_judgeSet 88 = .ok (.putfield 37, 3) := by decide +kernel
theorem dX3_judgeSet_91 : decode cX3_judgeSet 91 = .ok (.return_, 1) := by decide +kernel
theorem dX4_init_0 : decode cX4_init 0 = .ok (.aload_n 0, 1) := by decide +kernel
theorem dX4_init_1 : decode cX4_init 1 = .ok (.invokespecial 1, 3) := by decide +kernel
theorem dX4_init_4 : decode cX4_init 4 = .ok (.aload_n 0, 1) := by decide +kernel
theorem dX4_init_5 : decode cX4_init 5 = .ok (.bipush 24, 2) := by decide +kernel
theorem dX4_init_7 : decode cX4_init 7 = .ok (.newarray .int, 2) := by decide +kernel
theorem dX4_init_9 : decode cX4_init 9 = .ok (.putfield 9, 3) := by decide +kernel
theorem dX4_init_12 : decode cX4_init 12 = .ok (.return_, 1) := by decide +kernel
theorem dX4_isMissing_0 : decode cX4_isMissing 0 = .ok (.aload_n 0, 1) := by decide +kernel
theorem dX4_isMissing_1 : decode cX4_isMissing 1 = .ok (.getfield 13, 3) := by decide +kernel
theorem dX4_isMissing_4 : decode cX4_isMissing 4 = .ok (.ifCond .ne 7, 3) := by decide +kernel
theorem dX4_isMissing_7 : decode cX4_isMissing 7 = .ok (.iconst 1, 1) := by decide +kernel
theorem dX4_isMissing_8 : decode cX4_isMissing 8 = .ok (.goto 4, 3) := by decide +kernel
theorem dX4_isMissing_11 : decode cX4_isMissing 11 = .ok (.iconst 0, 1) := by decide +kernel
theorem dX4_isMissing_12 : decode cX4_isMissing 12 = .ok (.ireturn, 1) := by decide +kernel
theorem dX4_lay_0 : decode cX4_lay 0 = .ok (.aload_n 0, 1) := by decide +kernel
theorem dX4_lay_1 : decode cX4_lay 1 = .ok (.iload_n 1, 1) := by decide +kernel
theorem dX4_lay_2 : decode cX4_lay 2 = .ok (.putfield 13, 3) := by decide +kernel
theorem dX4_lay_5 : decode cX4_lay 5 = .ok (.aload_n 0, 1) := by decide +kernel
theorem dX4_lay_6 : decode cX4_lay 6 = .ok (.iload_n 2, 1) := by decide +kernel
theorem dX4_lay_7 : decode cX4_lay 7 = .ok (.putfield 17, 3) := by decide +kernel
theorem dX4_lay_10 : decode cX4_lay 10 = .ok (.aload_n 0, 1) := by decide +kernel
theorem dX4_lay_11 : decode cX4_lay 11 = .ok (.getfield 9, 3) := by decide +kernel
theorem dX4_lay_14 : decode cX4_lay 14 = .ok (.iconst 0, 1) := by decide +kernel
theorem dX4_lay_15 : decode cX4_lay 15 = .ok (.invokestatic 20, 3) := by decide +kernel
theorem dX4_lay_18 : decode cX4_lay 18 = .ok (.return_, 1) := by decide +kernel
theorem dX4_write_0 : decode cX4_write 0 = .ok (.aload_n 0, 1) := by decide +kernel
theorem dX4_write_1 : decode cX4_write 1 = .ok (.getfield 13, 3) := by decide +kernel
theorem dX4_write_4 : decode cX4_write 4 = .ok (.bipush 8, 2) := by decide +kernel
theorem dX4_write_6 : decode cX4_write 6 = .ok (.if_icmp .ne 14, 3) := by decide +kernel
theorem dX4_write_9 : decode cX4_write 9 = .ok (.aload_n 0, 1) := by decide +kernel
theorem dX4_write_10 : decode cX4_write 10 = .ok (.getfield 9, 3) := by decide +kernel
theorem dX4_write_13 : decode cX4_write 13 = .ok (.iload_n 1, 1) := by decide +kernel
theorem dX4_write_14 : decode cX4_write 14 = .ok (.iload_n 2, 1) := by decide +kernel
theorem dX4_write_15 : decode cX4_write 15 = .ok (.i2b, 1) := by decide +kernel
theorem dX4_write_16 : decode cX4_write 16 = .ok (.iastore, 1) := by decide +kernel
theorem dX4_write_17 : decode cX4_write 17 = .ok (.goto 30, 3) := by decide +kernel
theorem dX4_write_20 : decode cX4_write 20 = .ok (.aload_n 0, 1) := by decide +kernel
theorem dX4_write_21 : decode cX4_write 21 = .ok (.getfield 13, 3) := by decide +kernel
theorem dX4_write_24 : decode cX4_write 24 = .ok (.bipush 16, 2) := by decide +kernel
theorem dX4_write_26 : decode cX4_write 26 = .ok (.if_icmp .ne 14, 3) := by decide +kernel
theorem dX4_write_29 : decode cX4_write 29 = .ok (.aload_n 0, 1) := by decide +kernel
theorem dX4_write_30 : decode cX4_write 30 = .ok (.getfield 9, 3) := by decide +kernel
theorem dX4_write_33 : decode cX4_write 33 = .ok (.iload_n 1, 1) := by decide +kernel
theorem dX4_write_34 : decode cX4_write 34 = .ok (.iload_n 2, 1) := by decide +kernel
theorem dX4_write_35 : decode cX4_write 35 = .ok (.i2s, 1) := by decide +kernel
theorem dX4_write_36 : decode cX4_write 36 = .ok (.iastore, 1) := by decide +kernel
theorem dX4_write_37 : decode cX4_write 37 = .ok (.goto 10, 3) := by decide +kernel
theorem dX4_write_40 : decode cX4_write 40 = .ok (.aload_n 0, 1) := by decide +kernel
theorem dX4_write_41 : decode cX4_write 41 = .ok (.getfield 9, 3) := by decide +kernel
theorem dX4_write_44 : decode cX4_write 44 = .ok (.iload_n 1, 1) := by decide +kernel
theorem dX4_write_45 : decode cX4_write 45 = .ok (.iload_n 2, 1) := by decide +kernel
theorem dX4_write_46 : decode cX4_write 46 = .ok (.iastore, 1) := by decide +kernel
theorem dX4_write_47 : decode cX4_write 47 = .ok (.return_, 1) := by decide +kernel
theorem dX4_holds_0 : decode cX4_holds 0 = .ok (.iload_n 1, 1) := by decide +kernel
theorem dX4_holds_1 : decode cX4_holds 1 = .ok (.ifCond .lt 29, 3) := by decide +kernel
theorem dX4_holds_4 : decode cX4_holds 4 = .ok (.iload_n 2, 1) := by decide +kernel
theorem dX4_holds_5 : decode cX4_holds 5 = .ok (.ifCond .lt 25, 3) := by decide +kernel
theorem dX4_holds_8 : decode cX4_holds 8 = .ok (.iload_n 2, 1) := by decide +kernel
theorem dX4_holds_9 : decode cX4_holds 9 = .ok (.aload_n 0, 1) := by decide +kernel
theorem dX4_holds_10 : decode cX4_holds 10 = .ok (.getfield 17, 3) := by decide +kernel
theorem dX4_holds_13 : decode cX4_holds 13 = .ok (.if_icmp .gt 17, 3) := by decide +kernel
theorem dX4_holds_16 : decode cX4_holds 16 = .ok (.iload_n 1, 1) := by decide +kernel
theorem dX4_holds_17 : decode cX4_holds 17 = .ok (.aload_n 0, 1) := by decide +kernel
theorem dX4_holds_18 : decode cX4_holds 18 = .ok (.getfield 17, 3) := by decide +kernel
theorem dX4_holds_21 : decode cX4_holds 21 = .ok (.iload_n 2, 1) := by decide +kernel
theorem dX4_holds_22 : decode cX4_holds 22 = .ok (.isub, 1) := by decide +kernel
theorem dX4_holds_23 : decode cX4_holds 23 = .ok (.if_icmp .gt 7, 3) := by decide +kernel
theorem dX4_holds_26 : decode cX4_holds 26 = .ok (.iconst 1, 1) := by decide +kernel
theorem dX4_holds_27 : decode cX4_holds 27 = .ok (.goto 4, 3) := by decide +kernel
theorem dX4_holds_30 : decode cX4_holds 30 = .ok (.iconst 0, 1) := by decide +kernel
theorem dX4_holds_31 : decode cX4_holds 31 = .ok (.ireturn, 1) := by decide +kernel
theorem dX5_init_0 : decode cX5_init 0 = .ok (.aload_n 0, 1) := by decide +kernel
theorem dX5_init_1 : decode cX5_init 1 = .ok (.invokespecial 3, 3) := by decide +kernel
theorem dX5_init_4 : decode cX5_init 4 = .ok (.aload_n 0, 1) := by decide +kernel
theorem dX5_init_5 : decode cX5_init 5 = .ok (.bipush 6, 2) := by decide +kernel
theorem dX5_init_7 : decode cX5_init 7 = .ok (.newarray .int, 2) := by decide +kernel
theorem dX5_init_9 : decode cX5_init 9 = .ok (.putfield 9, 3) := by decide +kernel
theorem dX5_init_12 : decode cX5_init 12 = .ok (.aload_n 0, 1) := by decide +kernel
theorem dX5_init_13 : decode cX5_init 13 = .ok (.bipush 6, 2) := by decide +kernel
theorem dX5_init_15 : decode cX5_init 15 = .ok (.newarray .int, 2) := by decide +kernel
theorem dX5_init_17 : decode cX5_init 17 = .ok (.putfield 15, 3) := by decide +kernel
theorem dX5_init_20 : decode cX5_init 20 = .ok (.return_, 1) := by decide +kernel
theorem dX5_open_0 : decode cX5_open 0 = .ok (.aload_n 0, 1) := by decide +kernel
theorem dX5_open_1 : decode cX5_open 1 = .ok (.iload_n 1, 1) := by decide +kernel
theorem dX5_open_2 : decode cX5_open 2 = .ok (.putfield 18, 3) := by decide +kernel
theorem dX5_open_5 : decode cX5_open 5 = .ok (.aload_n 0, 1) := by decide +kernel
theorem dX5_open_6 : decode cX5_open 6 = .ok (.iload_n 2, 1) := by decide +kernel
theorem dX5_open_7 : decode cX5_open 7 = .ok (.putfield 22, 3) := by decide +kernel
theorem dX5_open_10 : decode cX5_open 10 = .ok (.aload_n 0, 1) := by decide +kernel
theorem dX5_open_11 : decode cX5_open 11 = .ok (.iconst 0, 1) := by decide +kernel
theorem dX5_open_12 : decode cX5_open 12 = .ok (.putfield 25, 3) := by decide +kernel
theorem dX5_open_15 : decode cX5_open 15 = .ok (.aload_n 0, 1) := by decide +kernel
theorem dX5_open_16 : decode cX5_open 16 = .ok (.iconst 0, 1) := by decide +kernel
theorem dX5_open_17 : decode cX5_open 17 = .ok (.putfield 28, 3) := by decide +kernel
theorem dX5_open_20 : decode cX5_open 20 = .ok (.aload_n 0, 1) := by decide +kernel
theorem dX5_open_21 : decode cX5_open 21 = .ok (.getfield 9, 3) := by decide +kernel
theorem dX5_open_24 : decode cX5_open 24 = .ok (.iconst 0, 1) := by decide +kernel
theorem dX5_open_25 : decode cX5_open 25 = .ok (.invokestatic 31, 3) := by decide +kernel
theorem dX5_open_28 : decode cX5_open 28 = .ok (.aload_n 0, 1) := by decide +kernel
theorem dX5_open_29 : decode cX5_open 29 = .ok (.getfield 15, 3) := by decide +kernel
theorem dX5_open_32 : decode cX5_open 32 = .ok (.iconst 0, 1) := by decide +kernel
theorem dX5_open_33 : decode cX5_open 33 = .ok (.invokestatic 31, 3) := by decide +kernel
theorem dX5_open_36 : decode cX5_open 36 = .ok (.return_, 1) := by decide +kernel
theorem dX5_copyFrom_0 : decode cX5_copyFrom 0 = .ok (.aload_n 0, 1) := by decide +kernel
theorem dX5_copyFrom_1 : decode cX5_copyFrom 1 = .ok (.aload_n 1, 1) := by decide +kernel
theorem dX5_copyFrom_2 : decode cX5_copyFrom 2 = .ok (.getfield 18, 3) := by decide +kernel
theorem dX5_copyFrom_5 : decode cX5_copyFrom 5 = .ok (.putfield 18, 3) := by decide +kernel
theorem dX5_copyFrom_8 : decode cX5_copyFrom 8 = .ok (.aload_n 0, 1) := by decide +kernel
theorem dX5_copyFrom_9 : decode cX5_copyFrom 9 = .ok (.aload_n 1, 1) := by decide +kernel
theorem dX5_copyFrom_10 : decode cX5_copyFrom 10 = .ok (.getfield 22, 3) := by decide +kernel
theorem dX5_copyFrom_13 : decode cX5_copyFrom 13 = .ok (.putfield 22, 3) := by decide +kernel
theorem dX5_copyFrom_16 : decode cX5_copyFrom 16 = .ok (.aload_n 0, 1) := by decide +kernel
theorem dX5_copyFrom_17 : decode cX5_copyFrom 17 = .ok (.aload_n 1, 1) := by decide +kernel
theorem dX5_copyFrom_18 : decode cX5_copyFrom 18 = .ok (.getfield 25, 3) := by decide +kernel
theorem dX5_copyFrom_21 : decode cX5_copyFrom 21 = .ok (.putfield 25, 3) := by decide +kernel
theorem dX5_copyFrom_24 : decode cX5_copyFrom 24 = .ok (.aload_n 0, 1) := by decide +kernel
theorem dX5_copyFrom_25 : decode cX5_copyFrom 25 = .ok (.aload_n 1, 1) := by decide +kernel
theorem dX5_copyFrom_26 : decode cX5_copyFrom 26 = .ok (.getfield 28, 3) := by decide +kernel
theorem dX5_copyFrom_29 : decode cX5_copyFrom 29 = .ok (.putfield 28, 3) := by decide +kernel
theorem dX5_copyFrom_32 : decode cX5_copyFrom 32 = .ok (.aload_n 1, 1) := by decide +kernel
theorem dX5_copyFrom_33 : decode cX5_copyFrom 33 = .ok (.getfield 9, 3) := by decide +kernel
theorem dX5_copyFrom_36 : decode cX5_copyFrom 36 = .ok (.iconst 0, 1) := by decide +kernel
theorem dX5_copyFrom_37 : decode cX5_copyFrom 37 = .ok (.aload_n 0, 1) := by decide +kernel
theorem dX5_copyFrom_38 : decode cX5_copyFrom 38 = .ok (.getfield 9, 3) := by decide +kernel
theorem dX5_copyFrom_41 : decode cX5_copyFrom 41 = .ok (.iconst 0, 1) := by decide +kernel
theorem dX5_copyFrom_42 : decode cX5_copyFrom 42 = .ok (.bipush 6, 2) := by decide +kernel
theorem dX5_copyFrom_44 : decode cX5_copyFrom 44 = .ok (.invokestatic 37, 3) := by decide +kernel
theorem dX5_copyFrom_47 : decode cX5_copyFrom 47 = .ok (.aload_n 1, 1) := by decide +kernel
theorem dX5_copyFrom_48 : decode cX5_copyFrom 48 = .ok (.getfield 15, 3) := by decide +kernel
theorem dX5_copyFrom_51 : decode cX5_copyFrom 51 = .ok (.iconst 0, 1) := by decide +kernel
theorem dX5_copyFrom_52 : decode cX5_copyFrom 52 = .ok (.aload_n 0, 1) := by decide +kernel
theorem dX5_copyFrom_53 : decode cX5_copyFrom 53 = .ok (.getfield 15, 3) := by decide +kernel
theorem dX5_copyFrom_56 : decode cX5_copyFrom 56 = .ok (.iconst 0, 1) := by decide +kernel
theorem dX5_copyFrom_57 : decode cX5_copyFrom 57 = .ok (.bipush 6, 2) := by decide +kernel
theorem dX5_copyFrom_59 : decode cX5_copyFrom 59 = .ok (.invokestatic 37, 3) := by decide +kernel
theorem dX5_copyFrom_62 : decode cX5_copyFrom 62 = .ok (.return_, 1) := by decide +kernel
theorem dX5_change_0 : decode cX5_change 0 = .ok (.iload_n 1, 1) := by decide +kernel
theorem dX5_change_1 : decode cX5_change 1 = .ok (.ifCond .ne 11, 3) := by decide +kernel
theorem dX5_change_4 : decode cX5_change 4 = .ok (.aload_n 0, 1) := by decide +kernel
theorem dX5_change_5 : decode cX5_change 5 = .ok (.iload_n 2, 1) := by decide +kernel
theorem dX5_change_6 : decode cX5_change 6 = .ok (.putfield 18, 3) := by decide +kernel
theorem dX5_change_9 : decode cX5_change 9 = .ok (.goto 59, 3) := by decide +kernel
theorem dX5_change_12 : decode cX5_change 12 = .ok (.iload_n 1, 1) := by decide +kernel
theorem dX5_change_13 : decode cX5_change 13 = .ok (.iconst 1, 1) := by decide +kernel
theorem dX5_change_14 : decode cX5_change 14 = .ok (.if_icmp .ne 11, 3) := by decide +kernel
theorem dX5_change_17 : decode cX5_change 17 = .ok (.aload_n 0, 1) := by decide +kernel
theorem dX5_change_18 : decode cX5_change 18 = .ok (.iload_n 2, 1) := by decide +kernel
theorem dX5_change_19 : decode cX5_change 19 = .ok (.putfield 22, 3) := by decide +kernel
theorem dX5_change_22 : decode cX5_change 22 = .ok (.goto 46, 3) := by decide +kernel
theorem dX5_change_25 : decode cX5_change 25 = .ok (.iload_n 1, 1) := by decide +kernel
theorem dX5_change_26 : decode cX5_change 26 = .ok (.iconst 3, 1) := by decide +kernel
theorem dX5_change_27 : decode cX5_change 27 = .ok (.bipush 8, 2) := by decide +kernel
theorem dX5_change_29 : decode cX5_change 29 = .ok (.invokestatic 43, 3) := by decide +kernel
theorem dX5_change_32 : decode cX5_change 32 = .ok (.ifCond .eq 15, 3) := by decide +kernel
theorem dX5_change_35 : decode cX5_change 35 = .ok (.aload_n 0, 1) := by decide +kernel
theorem dX5_change_36 : decode cX5_change 36 = .ok (.getfield 9, 3) := by decide +kernel
theorem dX5_change_39 : decode cX5_change 39 = .ok (.iload_n 1, 1) := by decide +kernel
theorem dX5_change_40 : decode cX5_change 40 = .ok (.iconst 3, 1) := by decide +kernel
theorem dX5_change_41 : decode cX5_change 41 = .ok (.isub, 1) := by decide +kernel
theorem dX5_change_42 : decode cX5_change 42 = .ok (.iload_n 2, 1) := by decide +kernel
theorem dX5_change_43 : decode cX5_change 43 = .ok (.iastore, 1) := by decide +kernel
theorem dX5_change_44 : decode cX5_change 44 = .ok (.goto 24, 3) := by decide +kernel
theorem dX5_change_47 : decode cX5_change 47 = .ok (.iload_n 1, 1) := by decide +kernel
theorem dX5_change_48 : decode cX5_change 48 = .ok (.bipush 9, 2) := by decide +kernel
theorem dX5_change_50 : decode cX5_change 50 = .ok (.bipush 14, 2) := by decide +kernel
theorem dX5_change_52 : decode cX5_change 52 = .ok (.invokestatic 43, 3) := by decide +kernel
theorem dX5_change_55 : decode cX5_change 55 = .ok (.ifCond .eq 13, 3) := by decide +kernel
theorem dX5_change_58 : decode cX5_change 58 = .ok (.aload_n 0, 1) := by decide +kernel
theorem dX5_change_59 : decode cX5_change 59 = .ok (.getfield 15, 3) := by decide +kernel
theorem dX5_change_62 : decode cX5_change 62 = .ok (.iload_n 1, 1) := by decide +kernel
theorem dX5_change_63 : decode cX5_change 63 = .ok (.bipush 9, 2) := by decide +kernel
theorem dX5_change_65 : decode cX5_change 65 = .ok (.isub, 1) := by decide +kernel
theorem dX5_change_66 : decode cX5_change 66 = .ok (.iload_n 2, 1) := by decide +kernel
theorem dX5_change_67 : decode cX5_change 67 = .ok (.iastore, 1) := by decide +kernel
theorem dX5_change_68 : decode cX5_change 68 = .ok (.return_, 1) := by decide +kernel
theorem dX5_earn_0 : decode cX5_earn 0 = .ok (.aload_n 0, 1) := by decide +kernel
theorem dX5_earn_1 : decode cX5_earn 1 = .ok (.aload_n 0, 1) := by decide +kernel
theorem dX5_earn_2 : decode cX5_earn 2 = .ok (.getfield 25, 3) := by decide +kernel
theorem dX5_earn_5 : decode cX5_earn 5 = .ok (.iload_n 1, 1) := by decide +kernel
theorem dX5_earn_6 : decode cX5_earn 6 = .ok (.iadd, 1) := by decide +kernel
theorem dX5_earn_7 : decode cX5_earn 7 = .ok (.ldc 47, 2) := by decide +kernel
theorem dX5_earn_9 : decode cX5_earn 9 = .ok (.ldc 48, 2) := by decide +kernel
theorem dX5_earn_11 : decode cX5_earn 11 = .ok (.invokestatic 49, 3) := by decide +kernel
theorem dX5_earn_14 : decode cX5_earn 14 = .ok (.putfield 25, 3) := by decide +kernel
theorem dX5_earn_17 : decode cX5_earn 17 = .ok (.return_, 1) := by decide +kernel
theorem dX5_keepOnly_0 : decode cX5_keepOnly 0 = .ok (.iconst 0, 1) := by decide +kernel
theorem dX5_keepOnly_1 : decode cX5_keepOnly 1 = .ok (.istore_n 2, 1) := by decide +kernel
theorem dX5_keepOnly_2 : decode cX5_keepOnly 2 = .ok (.iload_n 2, 1) := by decide +kernel
theorem dX5_keepOnly_3 : decode cX5_keepOnly 3 = .ok (.bipush 6, 2) := by decide +kernel
theorem dX5_keepOnly_5 : decode cX5_keepOnly 5 = .ok (.if_icmp .ge 24, 3) := by decide +kernel
theorem dX5_keepOnly_8 : decode cX5_keepOnly 8 = .ok (.iload_n 1, 1) := by decide +kernel
theorem dX5_keepOnly_9 : decode cX5_keepOnly 9 = .ok (.iload_n 2, 1) := by decide +kernel
theorem dX5_keepOnly_10 : decode cX5_keepOnly 10 = .ok (.ishr, 1) := by decide +kernel
theorem dX5_keepOnly_11 : decode cX5_keepOnly 11 = .ok (.iconst 1, 1) := by decide +kernel
theorem dX5_keepOnly_12 : decode cX5_keepOnly 12 = .ok (.iand, 1) := by decide +kernel
theorem dX5_keepOnly_13 : decode cX5_keepOnly 13 = .ok (.ifCond .ne 10, 3) := by decide +kernel
theorem dX5_keepOnly_16 : decode cX5_keepOnly 16 = .ok (.aload_n 0, 1) := by decide +kernel
theorem dX5_keepOnly_17 : decode cX5_keepOnly 17 = .ok (.getfield 9, 3) := by decide +kernel
theorem dX5_keepOnly_20 : decode cX5_keepOnly 20 = .ok (.iload_n 2, 1) := by decide +kernel
theorem dX5_keepOnly_21 : decode cX5_keepOnly 21 = .ok (.iconst 0, 1) := by decide +kernel
theorem dX5_keepOnly_22 : decode cX5_keepOnly 22 = .ok (.iastore, 1) := by decide +kernel
theorem dX5_keepOnly_23 : decode cX5_keepOnly 23 = .ok (.iinc 2 1, 3) := by decide +kernel
theorem dX5_keepOnly_26 : decode cX5_keepOnly 26 = .ok (.goto (-24), 3) := by decide +kernel
theorem dX5_keepOnly_29 : decode cX5_keepOnly 29 = .ok (.return_, 1) := by decide +kernel
theorem dX5_join_0 : decode cX5_join 0 = .ok (.aload_n 0, 1) := by decide +kernel
theorem dX5_join_1 : decode cX5_join 1 = .ok (.aload_n 1, 1) := by decide +kernel
theorem dX5_join_2 : decode cX5_join 2 = .ok (.getfield 25, 3) := by decide +kernel
theorem dX5_join_5 : decode cX5_join 5 = .ok (.invokevirtual 53, 3) := by decide +kernel
theorem dX5_join_8 : decode cX5_join 8 = .ok (.iconst 0, 1) := by decide +kernel
theorem dX5_join_9 : decode cX5_join 9 = .ok (.istore_n 2, 1) := by decide +kernel
theorem dX5_join_10 : decode cX5_join 10 = .ok (.iload_n 2, 1) := by decide +kernel
theorem dX5_join_11 : decode cX5_join 11 = .ok (.bipush 6, 2) := by decide +kernel
theorem dX5_join_13 : decode cX5_join 13 = .ok (.if_icmp .ge 57, 3) := by decide +kernel
theorem dX5_join_16 : decode cX5_join 16 = .ok (.aload_n 0, 1) := by decide +kernel
theorem dX5_join_17 : decode cX5_join 17 = .ok (.getfield 9, 3) := by decide +kernel
theorem dX5_join_20 : decode cX5_join 20 = .ok (.iload_n 2, 1) := by decide +kernel
theorem dX5_join_21 : decode cX5_join 21 = .ok (.bipush 9, 2) := by decide +kernel
theorem dX5_join_23 : decode cX5_join 23 = .ok (.aload_n 0, 1) := by decide +kernel
theorem dX5_join_24 : decode cX5_join 24 = .ok (.getfield 9, 3) := by decide +kernel
theorem dX5_join_27 : decode cX5_join 27 = .ok (.iload_n 2, 1) := by decide +kernel
theorem dX5_join_28 : decode cX5_join 28 = .ok (.iaload, 1) := by decide +kernel
theorem dX5_join_29 : decode cX5_join 29 = .ok (.aload_n 1, 1) := by decide +kernel
theorem dX5_join_30 : decode cX5_join 30 = .ok (.getfield 9, 3) := by decide +kernel
theorem dX5_join_33 : decode cX5_join 33 = .ok (.iload_n 2, 1) := by decide +kernel
theorem dX5_join_34 : decode cX5_join 34 = .ok (.iaload, 1) := by decide +kernel
theorem dX5_join_35 : decode cX5_join 35 = .ok (.iadd, 1) := by decide +kernel
theorem dX5_join_36 : decode cX5_join 36 = .ok (.invokestatic 57, 3) := by decide +kernel
theorem dX5_join_39 : decode cX5_join 39 = .ok (.iastore, 1) := by decide +kernel
theorem dX5_join_40 : decode cX5_join 40 = .ok (.aload_n 0, 1) := by decide +kernel
theorem dX5_join_41 : decode cX5_join 41 = .ok (.getfield 15, 3) := by decide +kernel
theorem dX5_join_44 : decode cX5_join 44 = .ok (.iload_n 2, 1) := by decide +kernel
theorem dX5_join_45 : decode cX5_join 45 = .ok (.bipush 99, 2) := by decide +kernel
theorem dX5_join_47 : decode cX5_join 47 = .ok (.aload_n 0, 1) := by decide +kernel
theorem dX5_join_48 : decode cX5_join 48 = .ok (.getfield 15, 3) := by decide +kernel
theorem dX5_join_51 : decode cX5_join 51 = .ok (.iload_n 2, 1) := by decide +kernel
theorem dX5_join_52 : decode cX5_join 52 = .ok (.iaload, 1) := by decide +kernel
theorem dX5_join_53 : decode cX5_join 53 = .ok (.aload_n 1, 1) := by decide +kernel
theorem dX5_join_54 : decode cX5_join 54 = .ok (.getfield 15, 3) := by decide +kernel
theorem dX5_join_57 : decode cX5_join 57 = .ok (.iload_n 2, 1) := by decide +kernel
theorem dX5_join_58 : decode cX5_join 58 = .ok (.iaload, 1) := by decide +kernel
theorem dX5_join_59 : decode cX5_join 59 = .ok (.iadd, 1) := by decide +kernel
theorem dX5_join_60 : decode cX5_join 60 = .ok (.invokestatic 57, 3) := by decide +kernel
theorem dX5_join_63 : decode cX5_join 63 = .ok (.iastore, 1) := by decide +kernel
theorem dX5_join_64 : decode cX5_join 64 = .ok (.iinc 2 1, 3) := by decide +kernel
theorem dX5_join_67 : decode cX5_join 67 = .ok (.goto (-57), 3) := by decide +kernel
theorem dX5_join_70 : decode cX5_join 70 = .ok (.return_, 1) := by decide +kernel
theorem dX5_things_0 : decode cX5_things 0 = .ok (.iconst 0, 1) := by decide +kernel
theorem dX5_things_1 : decode cX5_things 1 = .ok (.istore_n 1, 1) := by decide +kernel
theorem dX5_things_2 : decode cX5_things 2 = .ok (.iconst 0, 1) := by decide +kernel
theorem dX5_things_3 : decode cX5_things 3 = .ok (.istore_n 2, 1) := by decide +kernel
theorem dX5_things_4 : decode cX5_things 4 = .ok (.iload_n 2, 1) := by decide +kernel
theorem dX5_things_5 : decode cX5_things 5 = .ok (.bipush 6, 2) := by decide +kernel
theorem dX5_things_7 : decode cX5_things 7 = .ok (.if_icmp .ge 18, 3) := by decide +kernel
theorem dX5_things_10 : decode cX5_things 10 = .ok (.iload_n 1, 1) := by decide +kernel
theorem dX5_things_11 : decode cX5_things 11 = .ok (.aload_n 0, 1) := by decide +kernel
theorem dX5_things_12 : decode cX5_things 12 = .ok (.getfield 15, 3) := by decide +kernel
theorem dX5_things_15 : decode cX5_things 15 = .ok (.iload_n 2, 1) := by decide +kernel
theorem dX5_things_16 : decode cX5_things 16 = .ok (.iaload, 1) := by decide +kernel
theorem dX5_things_17 : decode cX5_things 17 = .ok (.iadd, 1) := by decide +kernel
theorem dX5_things_18 : decode cX5_things 18 = .ok (.istore_n 1, 1) := by decide +kernel
theorem dX5_things_19 : decode cX5_things 19 = .ok (.iinc 2 1, 3) := by decide +kernel
theorem dX5_things_22 : decode cX5_things 22 = .ok (.goto (-18), 3) := by decide +kernel
theorem dX5_things_25 : decode cX5_things 25 = .ok (.iload_n 1, 1) := by decide +kernel
theorem dX5_things_26 : decode cX5_things 26 = .ok (.ireturn, 1) := by decide +kernel
theorem dX5_goodsHere_0 : decode cX5_goodsHere 0 = .ok (.iconst 0, 1) := by decide +kernel
theorem dX5_goodsHere_1 : decode cX5_goodsHere 1 = .ok (.istore_n 1, 1) := by decide +kernel
theorem dX5_goodsHere_2 : decode cX5_goodsHere 2 = .ok (.iconst 0, 1) := by decide +kernel
theorem dX5_goodsHere_3 : decode cX5_goodsHere 3 = .ok (.istore_n 2, 1) := by decide +kernel
theorem dX5_goodsHere_4 : decode cX5_goodsHere 4 = .ok (.iload_n 2, 1) := by decide +kernel
theorem dX5_goodsHere_5 : decode cX5_goodsHere 5 = .ok (.bipush 6, 2) := by decide +kernel
theorem dX5_goodsHere_7 : decode cX5_goodsHere 7 = .ok (.if_icmp .ge 24, 3) := by decide +kernel
theorem dX5_goodsHere_10 : decode cX5_goodsHere 10 = .ok (.aload_n 0, 1) := by decide +kernel
theorem dX5_goodsHere_11 : decode cX5_goodsHere 11 = .ok (.getfield 15, 3) := by decide +kernel
theorem dX5_goodsHere_14 : decode cX5_goodsHere 14 = .ok (.iload_n 2, 1) := by decide +kernel
theorem dX5_goodsHere_15 : decode cX5_goodsHere 15 = .ok (.iaload, 1) := by decide +kernel
theorem dX5_goodsHere_16 : decode cX5_goodsHere 16 = .ok (.ifCond .le 9, 3) := by decide +kernel
theorem dX5_goodsHere_19 : decode cX5_goodsHere 19 = .ok (.iload_n 1, 1) := by decide +kernel
theorem dX5_goodsHere_20 : decode cX5_goodsHere 20 = .ok (.iconst 1, 1) := by decide +kernel
theorem dX5_goodsHere_21 : decode cX5_goodsHere 21 = .ok (.iload_n 2, 1) := by decide +kernel
theorem dX5_goodsHere_22 : decode cX5_goodsHere 22 = .ok (.ishl, 1) := by decide +kernel
theorem dX5_goodsHere_23 : decode cX5_goodsHere 23 = .ok (.ior, 1) := by decide +kernel
theorem dX5_goodsHere_24 : decode cX5_goodsHere 24 = .ok (.istore_n 1, 1) := by decide +kernel
theorem dX5_goodsHere_25 : decode cX5_goodsHere 25 = .ok (.iinc 2 1, 3) := by decide +kernel
theorem dX5_goodsHere_28 : decode cX5_goodsHere 28 = .ok (.goto (-24), 3) := by decide +kernel
theorem dX5_goodsHere_31 : decode cX5_goodsHere 31 = .ok (.iload_n 1, 1) := by decide +kernel
theorem dX5_goodsHere_32 : decode cX5_goodsHere 32 = .ok (.ireturn, 1) := by decide +kernel
theorem dX6_init_0 : decode cX6_init 0 = .ok (.aload_n 0, 1) := by decide +kernel
theorem dX6_init_1 : decode cX6_init 1 = .ok (.invokespecial 3, 3) := by decide +kernel
theorem dX6_init_4 : decode cX6_init 4 = .ok (.aload_n 0, 1) := by decide +kernel
theorem dX6_init_5 : decode cX6_init 5 = .ok (.bipush 30, 2) := by decide +kernel
theorem dX6_init_7 : decode cX6_init 7 = .ok (.newarray .int, 2) := by decide +kernel
theorem dX6_init_9 : decode cX6_init 9 = .ok (.putfield 9, 3) := by decide +kernel
theorem dX6_init_12 : decode cX6_init 12 = .ok (.return_, 1) := by decide +kernel
theorem dX6_speak_0 : decode cX6_speak 0 = .ok (.aload_n 0, 1) := by decide +kernel
theorem dX6_speak_1 : decode cX6_speak 1 = .ok (.aload_n 1, 1) := by decide +kernel
theorem dX6_speak_2 : decode cX6_speak 2 = .ok (.getfield 15, 3) := by decide +kernel
theorem dX6_speak_5 : decode cX6_speak 5 = .ok (.putfield 21, 3) := by decide +kernel
theorem dX6_speak_8 : decode cX6_speak 8 = .ok (.aload_n 0, 1) := by decide +kernel
theorem dX6_speak_9 : decode cX6_speak 9 = .ok (.aload_n 1, 1) := by decide +kernel
theorem dX6_speak_10 : decode cX6_speak 10 = .ok (.getfield 22, 3) := by decide +kernel
theorem dX6_speak_13 : decode cX6_speak 13 = .ok (.putfield 25, 3) := by decide +kernel
theorem dX6_speak_16 : decode cX6_speak 16 = .ok (.aload_n 0, 1) := by decide +kernel
theorem dX6_speak_17 : decode cX6_speak 17 = .ok (.iload_n 2, 1) := by decide +kernel
theorem dX6_speak_18 : decode cX6_speak 18 = .ok (.putfield 26, 3) := by decide +kernel
theorem dX6_speak_21 : decode cX6_speak 21 = .ok (.aload_n 0, 1) := by decide +kernel
theorem dX6_speak_22 : decode cX6_speak 22 = .ok (.iconst 0, 1) := by decide +kernel
theorem dX6_speak_23 : decode cX6_speak 23 = .ok (.putfield 29, 3) := by decide +kernel
theorem dX6_speak_26 : decode cX6_speak 26 = .ok (.aload_n 0, 1) := by decide +kernel
theorem dX6_speak_27 : decode cX6_speak 27 = .ok (.iconst 0, 1) := by decide +kernel
theorem dX6_speak_28 : decode cX6_speak 28 = .ok (.putfield 32, 3) := by decide +kernel
theorem dX6_speak_31 : decode cX6_speak 31 = .ok (.aload_n 0, 1) := by decide +kernel
theorem dX6_speak_32 : decode cX6_speak 32 = .ok (.aload_n 0, 1) := by decide +kernel
theorem dX6_speak_33 : decode cX6_speak 33 = .ok (.getfield 21, 3) := by decide +kernel
theorem dX6_speak_36 : decode cX6_speak 36 = .ok (.iload_n 3, 1) := by decide +kernel
theorem dX6_speak_37 : decode cX6_speak 37 = .ok (.iload 4, 2) := by decide +kernel
theorem dX6_speak_39 : decode cX6_speak 39 = .ok (.iconst 0, 1) := by decide +kernel
theorem dX6_speak_40 : decode cX6_speak 40 = .ok (.invokevirtual 36, 3) := by decide +kernel
theorem dX6_speak_43 : decode cX6_speak 43 = .ok (.ireturn, 1) := by decide +kernel
theorem dX6_say_0 : decode cX6_say 0 = .ok (.iload_n 1, 1) := by decide +kernel
theorem dX6_say_1 : decode cX6_say 1 = .ok (.iload_n 2, 1) := by decide +kernel
theorem dX6_say_2 : decode cX6_say 2 = .ok (.invokestatic 40, 3) := by decide +kernel
theorem dX6_say_5 : decode cX6_say 5 = .ok (.istore 5, 2) := by decide +kernel
theorem dX6_say_7 : decode cX6_say 7 = .ok (.iload 5, 2) := by decide +kernel
theorem dX6_say_9 : decode cX6_say 9 = .ok (.ifCond .lt 10, 3) := by decide +kernel
theorem dX6_say_12 : decode cX6_say 12 = .ok (.iload 4, 2) := by decide +kernel
theorem dX6_say_14 : decode cX6_say 14 = .ok (.bipush 20, 2) := by decide +kernel
theorem dX6_say_16 : decode cX6_say 16 = .ok (.if_icmp .le 5, 3) := by decide +kernel
theorem dX6_say_19 : decode cX6_say 19 = .ok (.iconst 0, 1) := by decide +kernel
theorem dX6_say_20 : decode cX6_say 20 = .ok (.ireturn, 1) := by decide +kernel
theorem dX6_say_21 : decode cX6_say 21 = .ok (.getstatic 44, 3) := by decide +kernel
theorem dX6_say_24 : decode cX6_say 24 = .ok (.iload 5, 2) := by decide +kernel
theorem dX6_say_26 : decode cX6_say 26 = .ok (.iconst 4, 1) := by decide +kernel
theorem dX6_say_27 : decode cX6_say 27 = .ok (.imul, 1) := by decide +kernel
theorem dX6_say_28 : decode cX6_say 28 = .ok (.iload_n 2, 1) := by decide +kernel
theorem dX6_say_29 : decode cX6_say 29 = .ok (.iadd, 1) := by decide +kernel
theorem dX6_say_30 : decode cX6_say 30 = .ok (.iaload, 1) := by decide +kernel
theorem dX6_say_31 : decode cX6_say 31 = .ok (.istore 6, 2) := by decide +kernel
theorem dX6_say_33 : decode cX6_say 33 = .ok (.aload_n 0, 1) := by decide +kernel
theorem dX6_say_34 : decode cX6_say 34 = .ok (.iload 6, 2) := by decide +kernel
theorem dX6_say_36 : decode cX6_say 36 = .ok (.invokevirtual 47, 3) := by decide +kernel
theorem dX6_say_39 : decode cX6_say 39 = .ok (.getstatic 51, 3) := by decide +kernel
theorem dX6_say_42 : decode cX6_say 42 = .ok (.iload 5, 2) := by decide +kernel
theorem dX6_say_44 : decode cX6_say 44 = .ok (.iaload, 1) := by decide +kernel
theorem dX6_say_45 : decode cX6_say 45 = .ok (.istore 7, 2) := by decide +kernel
theorem dX6_say_47 : decode cX6_say 47 = .ok (.iload 4, 2) := by decide +kernel
theorem dX6_say_49 : decode cX6_say 49 = .ok (.iconst 1, 1) := by decide +kernel
theorem dX6_say_50 : decode cX6_say 50 = .ok (.iadd, 1) := by decide +kernel
theorem dX6_say_51 : decode cX6_say 51 = .ok (.istore 8, 2) := by decide +kernel
theorem dX6_say_53 : decode cX6_say 53 = .ok (.iload 6, 2) := by decide +kernel
theorem dX6_say_55 : decode cX6_say 55 = .ok (.lookupswitch 268 #[(10, 113), (11, 120), (12, 135), (13, 153), (20, 159), (21, 172), (30, 182), (40, 195), (50, 208), (51, 221), (60, 237), (70, 250), (71, 252)], 113) := by decide +kernel
theorem dX6_say_168 : decode cX6_say 168 = .ok (.iload_n 3, 1) := by decide +kernel
theorem dX6_say_169 : decode cX6_say 169 = .ok (.aload_n 0, 1) := by decide +kernel
theorem dX6_say_170 : decode cX6_say 170 = .ok (.getfield 26, 3) := by decide +kernel
theorem dX6_say_173 : decode cX6_say 173 = .ok (.iadd, 1) := by decide +kernel
theorem dX6_say_174 : decode cX6_say 174 = .ok (.ireturn, 1) := by decide +kernel
theorem dX6_say_175 : decode cX6_say 175 = .ok (.aload_n 0, 1) := by decide +kernel
theorem dX6_say_176 : decode cX6_say 176 = .ok (.aload_n 0, 1) := by decide +kernel
theorem dX6_say_177 : decode cX6_say 177 = .ok (.getfield 21, 3) := by decide +kernel
theorem dX6_say_180 : decode cX6_say 180 = .ok (.iconst 0, 1) := by decide +kernel
theorem dX6_say_181 : decode cX6_say 181 = .ok (.iload_n 3, 1) := by decide +kernel
theorem dX6_say_182 : decode cX6_say 182 = .ok (.iload 8, 2) := by decide +kernel
theorem dX6_say_184 : decode cX6_say 184 = .ok (.invokevirtual 36, 3) := by decide +kernel
theorem dX6_say_187 : decode cX6_say 187 = .ok (.iconst 2, 1) := by decide +kernel
theorem dX6_say_188 : decode cX6_say 188 = .ok (.imul, 1) := by decide +kernel
theorem dX6_say_189 : decode cX6_say 189 = .ok (.ireturn, 1) := by decide +kernel
theorem dX6_say_190 : decode cX6_say 190 = .ok (.aload_n 0, 1) := by decide +kernel
theorem dX6_say_191 : decode cX6_say 191 = .ok (.aload_n 0, 1) := by decide +kernel
theorem dX6_say_192 : decode cX6_say 192 = .ok (.getfield 21, 3) := by decide +kernel
theorem dX6_say_195 : decode cX6_say 195 = .ok (.iconst 1, 1) := by decide +kernel
theorem dX6_say_196 : decode cX6_say 196 = .ok (.iload_n 3, 1) := by decide +kernel
theorem dX6_say_197 : decode cX6_say 197 = .ok (.iload 8, 2) := by decide +kernel
theorem dX6_say_199 : decode cX6_say 199 = .ok (.invokevirtual 36, 3) := by decide +kernel
theorem dX6_say_202 : decode cX6_say 202 = .ok (.aload_n 0, 1) := by decide +kernel
theorem dX6_say_203 : decode cX6_say 203 = .ok (.getfield 25, 3) := by decide +kernel
theorem dX6_say_206 : decode cX6_say 206 = .ok (.isub, 1) := by decide +kernel
theorem dX6_say_207 : decode cX6_say 207 = .ok (.ireturn, 1) := by decide +kernel
theorem dX6_say_208 : decode cX6_say 208 = .ok (.aload_n 0, 1) := by decide +kernel
theorem dX6_say_209 : decode cX6_say 209 = .ok (.iload_n 3, 1) := by decide +kernel
theorem dX6_say_210 : decode cX6_say 210 = .ok (.invokevirtual 54, 3) := by decide +kernel
theorem dX6_say_213 : decode cX6_say 213 = .ok (.ireturn, 1) := by decide +kernel
theorem dX6_say_214 : decode cX6_say 214 = .ok (.aload_n 0, 1) := by decide +kernel
theorem dX6_say_215 : decode cX6_say 215 = .ok (.iload 7, 2) := by decide +kernel
theorem dX6_say_217 : decode cX6_say 217 = .ok (.iconst 0, 1) := by decide +kernel
theorem dX6_say_218 : decode cX6_say 218 = .ok (.iload_n 3, 1) := by decide +kernel
theorem dX6_say_219 : decode cX6_say 219 = .ok (.iload 8, 2) := by decide +kernel
theorem dX6_say_221 : decode cX6_say 221 = .ok (.invokevirtual 36, 3) := by decide +kernel
theorem dX6_say_224 : decode cX6_say 224 = .ok (.iconst 4, 1) := by decide +kernel
theorem dX6_say_225 : decode cX6_say 225 = .ok (.isub, 1) := by decide +kernel
theorem dX6_say_226 : decode cX6_say 226 = .ok (.ireturn, 1) := by decide +kernel
theorem dX6_say_227 : decode cX6_say 227 = .ok (.aload_n 0, 1) := by decide +kernel
theorem dX6_say_228 : decode cX6_say 228 = .ok (.iload 7, 2) := by decide +kernel
theorem dX6_say_230 : decode cX6_say 230 = .ok (.iload_n 3, 1) := by decide +kernel
theorem dX6_say_231 : decode cX6_say 231 = .ok (.iload 8, 2) := by decide +kernel
theorem dX6_say_233 : decode cX6_say 233 = .ok (.invokevirtual 58, 3) := by decide +kernel
theorem dX6_say_236 : decode cX6_say 236 = .ok (.ireturn, 1) := by decide +kernel
theorem dX6_say_237 : decode cX6_say 237 = .ok (.iconst 0, 1) := by decide +kernel
theorem dX6_say_238 : decode cX6_say 238 = .ok (.aload_n 0, 1) := by decide +kernel
theorem dX6_say_239 : decode cX6_say 239 = .ok (.iload 7, 2) := by decide +kernel
theorem dX6_say_241 : decode cX6_say 241 = .ok (.iconst 1, 1) := by decide +kernel
theorem dX6_say_242 : decode cX6_say 242 = .ok (.iload_n 3, 1) := by decide +kernel
theorem dX6_say_243 : decode cX6_say 243 = .ok (.iload 8, 2) := by decide +kernel
theorem dX6_say_245 : decode cX6_say 245 = .ok (.invokevirtual 36, 3) := by decide +kernel
theorem dX6_say_248 : decode cX6_say 248 = .ok (.isub, 1) := by decide +kernel
theorem dX6_say_249 : decode cX6_say 249 = .ok (.ireturn, 1) := by decide +kernel
theorem dX6_say_250 : decode cX6_say 250 = .ok (.aload_n 0, 1) := by decide +kernel
theorem dX6_say_251 : decode cX6_say 251 = .ok (.iload 7, 2) := by decide +kernel
theorem dX6_say_253 : decode cX6_say 253 = .ok (.iconst 2, 1) := by decide +kernel
theorem dX6_say_254 : decode cX6_say 254 = .ok (.iload_n 3, 1) := by decide +kernel
theorem dX6_say_255 : decode cX6_say 255 = .ok (.iconst 2, 1) := by decide +kernel
theorem dX6_say_256 : decode cX6_say 256 = .ok (.idiv, 1) := by decide +kernel
theorem dX6_say_257 : decode cX6_say 257 = .ok (.iload 8, 2) := by decide +kernel
theorem dX6_say_259 : decode cX6_say 259 = .ok (.invokevirtual 36, 3) := by decide +kernel
theorem dX6_say_262 : decode cX6_say 262 = .ok (.ireturn, 1) := by decide +kernel
theorem dX6_say_263 : decode cX6_say 263 = .ok (.aload_n 0, 1) := by decide +kernel
theorem dX6_say_264 : decode cX6_say 264 = .ok (.iload 7, 2) := by decide +kernel
theorem dX6_say_266 : decode cX6_say 266 = .ok (.iconst 0, 1) := by decide +kernel
theorem dX6_say_267 : decode cX6_say 267 = .ok (.iload_n 3, 1) := by decide +kernel
theorem dX6_say_268 : decode cX6_say 268 = .ok (.iload 8, 2) := by decide +kernel
theorem dX6_say_270 : decode cX6_say 270 = .ok (.invokevirtual 36, 3) := by decide +kernel
theorem dX6_say_273 : decode cX6_say 273 = .ok (.iconst 3, 1) := by decide +kernel
theorem dX6_say_274 : decode cX6_say 274 = .ok (.imul, 1) := by decide +kernel
theorem dX6_say_275 : decode cX6_say 275 = .ok (.ireturn, 1) := by decide +kernel
theorem dX6_say_276 : decode cX6_say 276 = .ok (.aload_n 0, 1) := by decide +kernel
theorem dX6_say_277 : decode cX6_say 277 = .ok (.iload 7, 2) := by decide +kernel
theorem dX6_say_279 : decode cX6_say 279 = .ok (.iconst 2, 1) := by decide +kernel
theorem dX6_say_280 : decode cX6_say 280 = .ok (.iload_n 3, 1) := by decide +kernel
theorem dX6_say_281 : decode cX6_say 281 = .ok (.iload 8, 2) := by decide +kernel
theorem dX6_say_283 : decode cX6_say 283 = .ok (.invokevirtual 36, 3) := by decide +kernel
theorem dX6_say_286 : decode cX6_say 286 = .ok (.aload_n 0, 1) := by decide +kernel
theorem dX6_say_287 : decode cX6_say 287 = .ok (.getfield 26, 3) := by decide +kernel
theorem dX6_say_290 : decode cX6_say 290 = .ok (.ixor, 1) := by decide +kernel
theorem dX6_say_291 : decode cX6_say 291 = .ok (.ireturn, 1) := by decide +kernel
theorem dX6_say_292 : decode cX6_say 292 = .ok (.aload_n 0, 1) := by decide +kernel
theorem dX6_say_293 : decode cX6_say 293 = .ok (.iload 7, 2) := by decide +kernel
theorem dX6_say_295 : decode cX6_say 295 = .ok (.iconst 1, 1) := by decide +kernel
theorem dX6_say_296 : decode cX6_say 296 = .ok (.iload_n 3, 1) := by decide +kernel
theorem dX6_say_297 : decode cX6_say 297 = .ok (.iconst 1, 1) := by decide +kernel
theorem dX6_say_298 : decode cX6_say 298 = .ok (.iadd, 1) := by decide +kernel
theorem dX6_say_299 : decode cX6_say 299 = .ok (.iload 8, 2) := by decide +kernel
theorem dX6_say_301 : decode cX6_say 301 = .ok (.invokevirtual 36, 3) := by decide +kernel
theorem dX6_say_304 : decode cX6_say 304 = .ok (.ireturn, 1) := by decide +kernel
theorem dX6_say_305 : decode cX6_say 305 = .ok (.iconst 2, 1) := by decide +kernel
theorem dX6_say_306 : decode cX6_say 306 = .ok (.ireturn, 1) := by decide +kernel
theorem dX6_say_307 : decode cX6_say 307 = .ok (.aload_n 0, 1) := by decide +kernel
theorem dX6_say_308 : decode cX6_say 308 = .ok (.iload 7, 2) := by decide +kernel
theorem dX6_say_310 : decode cX6_say 310 = .ok (.iconst 1, 1) := by decide +kernel
theorem dX6_say_311 : decode cX6_say 311 = .ok (.iload_n 3, 1) := by decide +kernel
theorem dX6_say_312 : decode cX6_say 312 = .ok (.iload 8, 2) := by decide +kernel
theorem dX6_say_314 : decode cX6_say 314 = .ok (.invokevirtual 36, 3) := by decide +kernel
theorem dX6_say_317 : decode cX6_say 317 = .ok (.aload_n 0, 1) := by decide +kernel
theorem dX6_say_318 : decode cX6_say 318 = .ok (.getfield 25, 3) := by decide +kernel
theorem dX6_say_321 : decode cX6_say 321 = .ok (.iadd, 1) := by decide +kernel
theorem dX6_say_322 : decode cX6_say 322 = .ok (.ireturn, 1) := by decide +kernel
theorem dX6_say_323 : decode cX6_say 323 = .ok (.iconst 0, 1) := by decide +kernel
theorem dX6_say_324 : decode cX6_say 324 = .ok (.ireturn, 1) := by decide +kernel
theorem dX6_part_0 : decode cX6_part 0 = .ok (.aload_n 0, 1) := by decide +kernel
theorem dX6_part_1 : decode cX6_part 1 = .ok (.getfield 25, 3) := by decide +kernel
theorem dX6_part_4 : decode cX6_part 4 = .ok (.aload_n 0, 1) := by decide +kernel
theorem dX6_part_5 : decode cX6_part 5 = .ok (.getfield 26, 3) := by decide +kernel
theorem dX6_part_8 : decode cX6_part 8 = .ok (.isub, 1) := by decide +kernel
theorem dX6_part_9 : decode cX6_part 9 = .ok (.istore_n 2, 1) := by decide +kernel
theorem dX6_part_10 : decode cX6_part 10 = .ok (.iload_n 2, 1) := by decide +kernel
theorem dX6_part_11 : decode cX6_part 11 = .ok (.ifCond .ne 10, 3) := by decide +kernel
theorem dX6_part_14 : decode cX6_part 14 = .ok (.aload_n 0, 1) := by decide +kernel
theorem dX6_part_15 : decode cX6_part 15 = .ok (.iconst 1, 1) := by decide +kernel
theorem dX6_part_16 : decode cX6_part 16 = .ok (.putfield 32, 3) := by decide +kernel
theorem dX6_part_19 : decode cX6_part 19 = .ok (.iconst 0, 1) := by decide +kernel
theorem dX6_part_20 : decode cX6_part 20 = .ok (.ireturn, 1) := by decide +kernel
theorem dX6_part_21 : decode cX6_part 21 = .ok (.iload_n 1, 1) := by decide +kernel
theorem dX6_part_22 : decode cX6_part 22 = .ok (.iload_n 2, 1) := by decide +kernel
theorem dX6_part_23 : decode cX6_part 23 = .ok (.idiv, 1) := by decide +kernel
theorem dX6_part_24 : decode cX6_part 24 = .ok (.ireturn, 1) := by decide +kernel
theorem dX6_partAndFill_0 : decode cX6_partAndFill 0 = .ok (.aload_n 0, 1) := by decide +kernel
theorem dX6_partAndFill_1 : decode cX6_partAndFill 1 = .ok (.iload_n 1, 1) := by decide +kernel
theorem dX6_partAndFill_2 : decode cX6_partAndFill 2 = .ok (.iconst 3, 1) := by decide +kernel
theorem dX6_partAndFill_3 : decode cX6_partAndFill 3 = .ok (.iload_n 2, 1) := by decide +kernel
theorem dX6_partAndFill_4 : decode cX6_partAndFill 4 = .ok (.iload_n 3, 1) := by decide +kernel
theorem dX6_partAndFill_5 : decode cX6_partAndFill 5 = .ok (.invokevirtual 36, 3) := by decide +kernel
theorem dX6_partAndFill_8 : decode cX6_partAndFill 8 = .ok (.istore 4, 2) := by decide +kernel
theorem dX6_partAndFill_10 : decode cX6_partAndFill 10 = .ok (.aload_n 0, 1) := by decide +kernel
theorem dX6_partAndFill_11 : decode cX6_partAndFill 11 = .ok (.getfield 32, 3) := by decide +kernel
theorem dX6_partAndFill_14 : decode cX6_partAndFill 14 = .ok (.ifCond .eq 7, 3) := by decide +kernel
theorem dX6_partAndFill_17 : decode cX6_partAndFill 17 = .ok (.iconst 0, 1) := by decide +kernel
theorem dX6_partAndFill_18 : decode cX6_partAndFill 18 = .ok (.goto 17, 3) := by decide +kernel
theorem dX6_partAndFill_21 : decode cX6_partAndFill 21 = .ok (.iload 4, 2) := by decide +kernel
theorem dX6_partAndFill_23 : decode cX6_partAndFill 23 = .ok (.aload_n 0, 1) := by decide +kernel
theorem dX6_partAndFill_24 : decode cX6_partAndFill 24 = .ok (.aload_n 0, 1) := by decide +kernel
theorem dX6_partAndFill_25 : decode cX6_partAndFill 25 = .ok (.getfield 21, 3) := by decide +kernel
theorem dX6_partAndFill_28 : decode cX6_partAndFill 28 = .ok (.iconst 1, 1) := by decide +kernel
theorem dX6_partAndFill_29 : decode cX6_partAndFill 29 = .ok (.iconst 1, 1) := by decide +kernel
theorem dX6_partAndFill_30 : decode cX6_partAndFill 30 = .ok (.iload_n 3, 1) := by decide +kernel
theorem dX6_partAndFill_31 : decode cX6_partAndFill 31 = .ok (.invokevirtual 36, 3) := by decide +kernel
theorem dX6_partAndFill_34 : decode cX6_partAndFill 34 = .ok (.iadd, 1) := by decide +kernel
theorem dX6_partAndFill_35 : decode cX6_partAndFill 35 = .ok (.ireturn, 1) := by decide +kernel
theorem dX6_note_0 : decode cX6_note 0 = .ok (.aload_n 0, 1) := by decide +kernel
theorem dX6_note_1 : decode cX6_note 1 = .ok (.getfield 29, 3) := by decide +kernel
theorem dX6_note_4 : decode cX6_note 4 = .ok (.bipush 30, 2) := by decide +kernel
theorem dX6_note_6 : decode cX6_note 6 = .ok (.if_icmp .ge 23, 3) := by decide +kernel
theorem dX6_note_9 : decode cX6_note 9 = .ok (.aload_n 0, 1) := by decide +kernel
theorem dX6_note_10 : decode cX6_note 10 = .ok (.getfield 9, 3) := by decide +kernel
theorem dX6_note_13 : decode cX6_note 13 = .ok (.aload_n 0, 1) := by decide +kernel
theorem dX6_note_14 : decode cX6_note 14 = .ok (.getfield 29, 3) := by decide +kernel
theorem dX6_note_17 : decode cX6_note 17 = .ok (.iload_n 1, 1) := by decide +kernel
theorem dX6_note_18 : decode cX6_note 18 = .ok (.iastore, 1) := by decide +kernel
theorem dX6_note_19 : decode cX6_note 19 = .ok (.aload_n 0, 1) := by decide +kernel
theorem dX6_note_20 : decode cX6_note 20 = .ok (.dup, 1) := by decide +kernel
theorem dX6_note_21 : decode cX6_note 21 = .ok (.getfield 29, 3) := by decide +kernel
theorem dX6_note_24 : decode cX6_note 24 = .ok (.iconst 1, 1) := by decide +kernel
theorem dX6_note_25 : decode cX6_note 25 = .ok (.iadd, 1) := by decide +kernel
theorem dX6_note_26 : decode cX6_note 26 = .ok (.putfield 29, 3) := by decide +kernel
theorem dX6_note_29 : decode cX6_note 29 = .ok (.return_, 1) := by decide +kernel
theorem dX6_ownerOf_0 : decode cX6_ownerOf 0 = .ok (.iload_n 0, 1) := by decide +kernel
theorem dX6_ownerOf_1 : decode cX6_ownerOf 1 = .ok (.istore_n 2, 1) := by decide +kernel
theorem dX6_ownerOf_2 : decode cX6_ownerOf 2 = .ok (.iconst 0, 1) := by decide +kernel
theorem dX6_ownerOf_3 : decode cX6_ownerOf 3 = .ok (.istore_n 3, 1) := by decide +kernel
theorem dX6_ownerOf_4 : decode cX6_ownerOf 4 = .ok (.iload_n 3, 1) := by decide +kernel
theorem dX6_ownerOf_5 : decode cX6_ownerOf 5 = .ok (.bipush 7, 2) := by decide +kernel
theorem dX6_ownerOf_7 : decode cX6_ownerOf 7 = .ok (.if_icmp .ge 39, 3) := by decide +kernel
theorem dX6_ownerOf_10 : decode cX6_ownerOf 10 = .ok (.iload_n 2, 1) := by decide +kernel
theorem dX6_ownerOf_11 : decode cX6_ownerOf 11 = .ok (.iconst 0, 1) := by decide +kernel
theorem dX6_ownerOf_12 : decode cX6_ownerOf 12 = .ok (.bipush 6, 2) := by decide +kernel
theorem dX6_ownerOf_14 : decode cX6_ownerOf 14 = .ok (.invokestatic 62, 3) := by decide +kernel
theorem dX6_ownerOf_17 : decode cX6_ownerOf 17 = .ok (.ifCond .eq 29, 3) := by decide +kernel
theorem dX6_ownerOf_20 : decode cX6_ownerOf 20 = .ok (.getstatic 44, 3) := by decide +kernel
theorem dX6_ownerOf_23 : decode cX6_ownerOf 23 = .ok (.iload_n 2, 1) := by decide +kernel
theorem dX6_ownerOf_24 : decode cX6_ownerOf 24 = .ok (.iconst 4, 1) := by decide +kernel
theorem dX6_ownerOf_25 : decode cX6_ownerOf 25 = .ok (.imul, 1) := by decide +kernel
theorem dX6_ownerOf_26 : decode cX6_ownerOf 26 = .ok (.iload_n 1, 1) := by decide +kernel
theorem dX6_ownerOf_27 : decode cX6_ownerOf 27 = .ok (.iadd, 1) := by decide +kernel
theorem dX6_ownerOf_28 : decode cX6_ownerOf 28 = .ok (.iaload, 1) := by decide +kernel
theorem dX6_ownerOf_29 : decode cX6_ownerOf 29 = .ok (.ifCond .eq 5, 3) := by decide +kernel
theorem dX6_ownerOf_32 : decode cX6_ownerOf 32 = .ok (.iload_n 2, 1) := by decide +kernel
theorem dX6_ownerOf_33 : decode cX6_ownerOf 33 = .ok (.ireturn, 1) := by decide +kernel
theorem dX6_ownerOf_34 : decode cX6_ownerOf 34 = .ok (.getstatic 51, 3) := by decide +kernel
theorem dX6_ownerOf_37 : decode cX6_ownerOf 37 = .ok (.iload_n 2, 1) := by decide +kernel
theorem dX6_ownerOf_38 : decode cX6_ownerOf 38 = .ok (.iaload, 1) := by decide +kernel
theorem dX6_ownerOf_39 : decode cX6_ownerOf 39 = .ok (.istore_n 2, 1) := by decide +kernel
theorem dX6_ownerOf_40 : decode cX6_ownerOf 40 = .ok (.iinc 3 1, 3) := by decide +kernel
theorem dX6_ownerOf_43 : decode cX6_ownerOf 43 = .ok (.goto (-39), 3) := by decide +kernel
theorem dX6_ownerOf_46 : decode cX6_ownerOf 46 = .ok (.iconst (-1), 1) := by decide +kernel
theorem dX6_ownerOf_47 : decode cX6_ownerOf 47 = .ok (.ireturn, 1) := by decide +kernel
theorem dX7_init_0 : decode cX7_init 0 = .ok (.aload_n 0, 1) := by decide +kernel
theorem dX7_init_1 : decode cX7_init 1 = .ok (.invokespecial 3, 3) := by decide +kernel
theorem dX7_init_4 : decode cX7_init 4 = .ok (.aload_n 0, 1) := by decide +kernel
theorem dX7_init_5 : decode cX7_init 5 = .ok (.bipush 6, 2) := by decide +kernel
theorem dX7_init_7 : decode cX7_init 7 = .ok (.newarray .int, 2) := by decide +kernel
theorem dX7_init_9 : decode cX7_init 9 = .ok (.putfield 9, 3) := by decide +kernel
theorem dX7_init_12 : decode cX7_init 12 = .ok (.aload_n 0, 1) := by decide +kernel
theorem dX7_init_13 : decode cX7_init 13 = .ok (.bipush 6, 2) := by decide +kernel
theorem dX7_init_15 : decode cX7_init 15 = .ok (.anewarray 15, 3) := by decide +kernel
theorem dX7_init_18 : decode cX7_init 18 = .ok (.putfield 17, 3) := by decide +kernel
theorem dX7_init_21 : decode cX7_init 21 = .ok (.aload_n 0, 1) := by decide +kernel
theorem dX7_init_22 : decode cX7_init 22 = .ok (.bipush 10, 2) := by decide +kernel
theorem dX7_init_24 : decode cX7_init 24 = .ok (.anewarray 21, 3) := by decide +kernel
theorem dX7_init_27 : decode cX7_init 27 = .ok (.putfield 23, 3) := by decide +kernel
theorem dX7_init_30 : decode cX7_init 30 = .ok (.aload_n 0, 1) := by decide +kernel
theorem dX7_init_31 : decode cX7_init 31 = .ok (.iconst 1, 1) := by decide +kernel
theorem dX7_init_32 : decode cX7_init 32 = .ok (.putfield 27, 3) := by decide +kernel
theorem dX7_init_35 : decode cX7_init 35 = .ok (.aload_n 0, 1) := by decide +kernel
theorem dX7_init_36 : decode cX7_init 36 = .ok (.iconst 2, 1) := by decide +kernel
theorem dX7_init_37 : decode cX7_init 37 = .ok (.anewarray 31, 3) := by decide +kernel
theorem dX7_init_40 : decode cX7_init 40 = .ok (.putfield 33, 3) := by decide +kernel
theorem dX7_init_43 : decode cX7_init 43 = .ok (.aload_n 0, 1) := by decide +kernel
theorem dX7_init_44 : decode cX7_init 44 = .ok (.bipush 60, 2) := by decide +kernel
theorem dX7_init_46 : decode cX7_init 46 = .ok (.newarray .int, 2) := by decide +kernel
theorem dX7_init_48 : decode cX7_init 48 = .ok (.putfield 37, 3) := by decide +kernel
theorem dX7_init_51 : decode cX7_init 51 = .ok (.aload_n 0, 1) := by decide +kernel
theorem dX7_init_52 : decode cX7_init 52 = .ok (.bipush 24, 2) := by decide +kernel
theorem dX7_init_54 : decode cX7_init 54 = .ok (.newarray .int, 2) := by decide +kernel
theorem dX7_init_56 : decode cX7_init 56 = .ok (.putfield 40, 3) := by decide +kernel
theorem dX7_init_59 : decode cX7_init 59 = .ok (.aload_n 0, 1) := by decide +kernel
theorem dX7_init_60 : decode cX7_init 60 = .ok (.getfield 9, 3) := by decide +kernel
theorem dX7_init_63 : decode cX7_init 63 = .ok (.iconst 5, 1) := by decide +kernel
theorem dX7_init_64 : decode cX7_init 64 = .ok (.invokestatic 43, 3) := by decide +kernel
theorem dX7_init_67 : decode cX7_init 67 = .ok (.iconst 0, 1) := by decide +kernel
theorem dX7_init_68 : decode cX7_init 68 = .ok (.istore_n 1, 1) := by decide +kernel
theorem dX7_init_69 : decode cX7_init 69 = .ok (.iload_n 1, 1) := by decide +kernel
theorem dX7_init_70 : decode cX7_init 70 = .ok (.bipush 6, 2) := by decide +kernel
theorem dX7_init_72 : decode cX7_init 72 = .ok (.if_icmp .ge 22, 3) := by decide +kernel
theorem dX7_init_75 : decode cX7_init 75 = .ok (.aload_n 0, 1) := by decide +kernel
theorem dX7_init_76 : decode cX7_init 76 = .ok (.getfield 17, 3) := by decide +kernel
theorem dX7_init_79 : decode cX7_init 79 = .ok (.iload_n 1, 1) := by decide +kernel
theorem dX7_init_80 : decode cX7_init 80 = .ok (.new 15, 3) := by decide +kernel
theorem dX7_init_83 : decode cX7_init 83 = .ok (.dup, 1) := by decide +kernel
theorem dX7_init_84 : decode cX7_init 84 = .ok (.invokespecial 49, 3) := by decide +kernel
theorem dX7_init_87 : decode cX7_init 87 = .ok (.aastore, 1) := by decide +kernel
theorem dX7_init_88 : decode cX7_init 88 = .ok (.iinc 1 1, 3) := by decide +kernel
theorem dX7_init_91 : decode cX7_init 91 = .ok (.goto (-22), 3) := by decide +kernel
theorem dX7_init_94 : decode cX7_init 94 = .ok (.iconst 0, 1) := by decide +kernel
theorem dX7_init_95 : decode cX7_init 95 = .ok (.istore_n 1, 1) := by decide +kernel
theorem dX7_init_96 : decode cX7_init 96 = .ok (.iload_n 1, 1) := by decide +kernel
theorem dX7_init_97 : decode cX7_init 97 = .ok (.bipush 10, 2) := by decide +kernel
theorem dX7_init_99 : decode cX7_init 99 = .ok (.if_icmp .ge 22, 3) := by decide +kernel
theorem dX7_init_102 : decode cX7_init 102 = .ok (.aload_n 0, 1) := by decide +kernel
theorem dX7_init_103 : decode cX7_init 103 = .ok (.getfield 23, 3) := by decide +kernel
theorem dX7_init_106 : decode cX7_init 106 = .ok (.iload_n 1, 1) := by decide +kernel
theorem dX7_init_107 : decode cX7_init 107 = .ok (.new 21, 3) := by decide +kernel
theorem dX7_init_110 : decode cX7_init 110 = .ok (.dup, 1) := by decide +kernel
theorem dX7_init_111 : decode cX7_init 111 = .ok (.invokespecial 50, 3) := by decide +kernel
theorem dX7_init_114 : decode cX7_init 114 = .ok (.aastore, 1) := by decide +kernel
theorem dX7_init_115 : decode cX7_init 115 = .ok (.iinc 1 1, 3) := by decide +kernel
theorem dX7_init_118 : decode cX7_init 118 = .ok (.goto (-22), 3) := by decide +kernel
theorem dX7_init_121 : decode cX7_init 121 = .ok (.iconst 0, 1) := by decide +kernel
theorem dX7_init_122 : decode cX7_init 122 = .ok (.istore_n 1, 1) := by decide +kernel
theorem dX7_init_123 : decode cX7_init 123 = .ok (.iload_n 1, 1) := by decide +kernel
theorem dX7_init_124 : decode cX7_init 124 = .ok (.iconst 2, 1) := by decide +kernel
theorem dX7_init_125 : decode cX7_init 125 = .ok (.if_icmp .ge 22, 3) := by decide +kernel
theorem dX7_init_128 : decode cX7_init 128 = .ok (.aload_n 0, 1) := by decide +kernel
theorem dX7_init_129 : decode cX7_init 129 = .ok (.getfield 33, 3) := by decide +kernel
theorem dX7_init_132 : decode cX7_init 132 = .ok (.iload_n 1, 1) := by decide +kernel
theorem dX7_init_133 : decode cX7_init 133 = .ok (.new 31, 3) := by decide +kernel
theorem dX7_init_136 : decode cX7_init 136 = .ok (.dup, 1) := by decide +kernel
theorem dX7_init_137 : decode cX7_init 137 = .ok (.invokespecial 51, 3) := by decide +kernel
theorem dX7_init_140 : decode cX7_init 140 = .ok (.aastore, 1) := by decide +kernel
theorem dX7_init_141 : decode cX7_init 141 = .ok (.iinc 1 1, 3) := by decide +kernel
theorem dX7_init_144 : decode cX7_init 144 = .ok (.goto (-21), 3) := by decide +kernel
theorem dX7_init_147 : decode cX7_init 147 = .ok (.return_, 1) := by decide +kernel
theorem dX7_copyFrom_0 : decode cX7_copyFrom 0 = .ok (.aload_n 0, 1) := by decide +kernel
theorem dX7_copyFrom_1 : decode cX7_copyFrom 1 = .ok (.aload_n 1, 1) := by decide +kernel
theorem dX7_copyFrom_2 : decode cX7_copyFrom 2 = .ok (.getfield 52, 3) := by decide +kernel
theorem dX7_copyFrom_5 : decode cX7_copyFrom 5 = .ok (.putfield 52, 3) := by decide +kernel
theorem dX7_copyFrom_8 : decode cX7_copyFrom 8 = .ok (.aload_n 0, 1) := by decide +kernel
theorem dX7_copyFrom_9 : decode cX7_copyFrom 9 = .ok (.aload_n 1, 1) := by decide +kernel
theorem dX7_copyFrom_10 : decode cX7_copyFrom 10 = .ok (.getfield 55, 3) := by decide +kernel
theorem dX7_copyFrom_13 : decode cX7_copyFrom 13 = .ok (.putfield 55, 3) := by decide +kernel
theorem dX7_copyFrom_16 : decode cX7_copyFrom 16 = .ok (.aload_n 0, 1) := by decide +kernel
theorem dX7_copyFrom_17 : decode cX7_copyFrom 17 = .ok (.aload_n 1, 1) := by decide +kernel
theorem dX7_copyFrom_18 : decode cX7_copyFrom 18 = .ok (.getfield 58, 3) := by decide +kernel
theorem dX7_copyFrom_21 : decode cX7_copyFrom 21 = .ok (.putfield 58, 3) := by decide +kernel
theorem dX7_copyFrom_24 : decode cX7_copyFrom 24 = .ok (.aload_n 0, 1) := by decide +kernel
theorem dX7_copyFrom_25 : decode cX7_copyFrom 25 = .ok (.aload_n 1, 1) := by decide +kernel
theorem dX7_copyFrom_26 : decode cX7_copyFrom 26 = .ok (.getfield 61, 3) := by decide +kernel
theorem dX7_copyFrom_29 : decode cX7_copyFrom 29 = .ok (.putfield 61, 3) := by decide +kernel
theorem dX7_copyFrom_32 : decode cX7_copyFrom 32 = .ok (.aload_n 0, 1) := by decide +kernel
theorem dX7_copyFrom_33 : decode cX7_copyFrom 33 = .ok (.aload_n 1, 1) := by decide +kernel
theorem dX7_copyFrom_34 : decode cX7_copyFrom 34 = .ok (.getfield 27, 3) := by decide +kernel
theorem dX7_copyFrom_37 : decode cX7_copyFrom 37 = .ok (.putfield 27, 3) := by decide +kernel
theorem dX7_copyFrom_40 : decode cX7_copyFrom 40 = .ok (.aload_n 0, 1) := by decide +kernel
theorem dX7_copyFrom_41 : decode cX7_copyFrom 41 = .ok (.aload_n 1, 1) := by decide +kernel
theorem dX7_copyFrom_42 : decode cX7_copyFrom 42 = .ok (.getfield 64, 3) := by decide +kernel
theorem dX7_copyFrom_45 : decode cX7_copyFrom 45 = .ok (.putfield 64, 3) := by decide +kernel
theorem dX7_copyFrom_48 : decode cX7_copyFrom 48 = .ok (.iconst 0, 1) := by decide +kernel
theorem dX7_copyFrom_49 : decode cX7_copyFrom 49 = .ok (.istore_n 2, 1) := by decide +kernel
theorem dX7_copyFrom_50 : decode cX7_copyFrom 50 = .ok (.iload_n 2, 1) := by decide +kernel
theorem dX7_copyFrom_51 : decode cX7_copyFrom 51 = .ok (.aload_n 0, 1) := by decide +kernel
theorem dX7_copyFrom_52 : decode cX7_copyFrom 52 = .ok (.getfield 64, 3) := by decide +kernel
theorem dX7_copyFrom_55 : decode cX7_copyFrom 55 = .ok (.if_icmp .ge 24, 3) := by decide +kernel
theorem dX7_copyFrom_58 : decode cX7_copyFrom 58 = .ok (.aload_n 0, 1) := by decide +kernel
theorem dX7_copyFrom_59 : decode cX7_copyFrom 59 = .ok (.getfield 17, 3) := by decide +kernel
theorem dX7_copyFrom_62 : decode cX7_copyFrom 62 = .ok (.iload_n 2, 1) := by decide +kernel
theorem dX7_copyFrom_63 : decode cX7_copyFrom 63 = .ok (.aaload, 1) := by decide +kernel
theorem dX7_copyFrom_64 : decode cX7_copyFrom 64 = .ok (.aload_n 1, 1) := by decide +kernel
theorem dX7_copyFrom_65 : decode cX7_copyFrom 65 = .ok (.getfield 17, 3) := by decide +kernel
theorem dX7_copyFrom_68 : decode cX7_copyFrom 68 = .ok (.iload_n 2, 1) := by decide +kernel
theorem dX7_copyFrom_69 : decode cX7_copyFrom 69 = .ok (.aaload, 1) := by decide +kernel
theorem dX7_copyFrom_70 : decode cX7_copyFrom 70 = .ok (.invokevirtual 67, 3) := by decide +kernel
theorem dX7_copyFrom_73 : decode cX7_copyFrom 73 = .ok (.iinc 2 1, 3) := by decide +kernel
theorem dX7_copyFrom_76 : decode cX7_copyFrom 76 = .ok (.goto (-26), 3) := by decide +kernel
theorem dX7_copyFrom_79 : decode cX7_copyFrom 79 = .ok (.aload_n 0, 1) := by decide +kernel
theorem dX7_copyFrom_80 : decode cX7_copyFrom 80 = .ok (.aload_n 1, 1) := by decide +kernel
theorem dX7_copyFrom_81 : decode cX7_copyFrom 81 = .ok (.getfield 71, 3) := by decide +kernel
theorem dX7_copyFrom_84 : decode cX7_copyFrom 84 = .ok (.putfield 71, 3) := by decide +kernel
theorem dX7_copyFrom_87 : decode cX7_copyFrom 87 = .ok (.iconst 0, 1) := by decide +kernel
theorem dX7_copyFrom_88 : decode cX7_copyFrom 88 = .ok (.istore_n 2, 1) := by decide +kernel
theorem dX7_copyFrom_89 : decode cX7_copyFrom 89 = .ok (.iload_n 2, 1) := by decide +kernel
theorem dX7_copyFrom_90 : decode cX7_copyFrom 90 = .ok (.aload_n 0, 1) := by decide +kernel
theorem dX7_copyFrom_91 : decode cX7_copyFrom 91 = .ok (.getfield 71, 3) := by decide +kernel
theorem dX7_copyFrom_94 : decode cX7_copyFrom 94 = .ok (.if_icmp .ge 24, 3) := by decide +kernel
theorem dX7_copyFrom_97 : decode cX7_copyFrom 97 = .ok (.aload_n 0, 1) := by decide +kernel
theorem dX7_copyFrom_98 : decode cX7_copyFrom 98 = .ok (.getfield 23, 3) := by decide +kernel
theorem dX7_copyFrom_101 : decode cX7_copyFrom 101 = .ok (.iload_n 2, 1) := by decide +kernel
theorem dX7_copyFrom_102 : decode cX7_copyFrom 102 = .ok (.aaload, 1) := by decide +kernel
theorem dX7_copyFrom_103 : decode cX7_copyFrom 103 = .ok (.aload_n 1, 1) := by decide +kernel
theorem dX7_copyFrom_104 : decode cX7_copyFrom 104 = .ok (.getfield 23, 3) := by decide +kernel
theorem dX7_copyFrom_107 : decode cX7_copyFrom 107 = .ok (.iload_n 2, 1) := by decide +kernel
theorem dX7_copyFrom_108 : decode cX7_copyFrom 108 = .ok (.aaload, 1) := by decide +kernel
theorem dX7_copyFrom_109 : decode cX7_copyFrom 109 = .ok (.invokevirtual 74, 3) := by decide +kernel
theorem dX7_copyFrom_112 : decode cX7_copyFrom 112 = .ok (.iinc 2 1, 3) := by decide +kernel
theorem dX7_copyFrom_115 : decode cX7_copyFrom 115 = .ok (.goto (-26), 3) := by decide +kernel
theorem dX7_copyFrom_118 : decode cX7_copyFrom 118 = .ok (.iconst 0, 1) := by decide +kernel
theorem dX7_copyFrom_119 : decode cX7_copyFrom 119 = .ok (.istore_n 2, 1) := by decide +kernel
theorem dX7_copyFrom_120 : decode cX7_copyFrom 120 = .ok (.iload_n 2, 1) := by decide +kernel
theorem dX7_copyFrom_121 : decode cX7_copyFrom 121 = .ok (.iconst 2, 1) := by decide +kernel
theorem dX7_copyFrom_122 : decode cX7_copyFrom 122 = .ok (.if_icmp .ge 36, 3) := by decide +kernel
theorem dX7_copyFrom_125 : decode cX7_copyFrom 125 = .ok (.aload_n 0, 1) := by decide +kernel
theorem dX7_copyFrom_126 : decode cX7_copyFrom 126 = .ok (.getfield 33, 3) := by decide +kernel
theorem dX7_copyFrom_129 : decode cX7_copyFrom 129 = .ok (.iload_n 2, 1) := by decide +kernel
theorem dX7_copyFrom_130 : decode cX7_copyFrom 130 = .ok (.aaload, 1) := by decide +kernel
theorem dX7_copyFrom_131 : decode cX7_copyFrom 131 = .ok (.aload_n 1, 1) := by decide +kernel
theorem dX7_copyFrom_132 : decode cX7_copyFrom 132 = .ok (.getfield 33, 3) := by decide +kernel
theorem dX7_copyFrom_135 : decode cX7_copyFrom 135 = .ok (.iload_n 2, 1) := by decide +kernel
theorem dX7_copyFrom_136 : decode cX7_copyFrom 136 = .ok (.aaload, 1) := by decide +kernel
theorem dX7_copyFrom_137 : decode cX7_copyFrom 137 = .ok (.getfield 77, 3) := by decide +kernel
theorem dX7_copyFrom_140 : decode cX7_copyFrom 140 = .ok (.aload_n 1, 1) := by decide +kernel
theorem dX7_copyFrom_141 : decode cX7_copyFrom 141 = .ok (.getfield 33, 3) := by decide +kernel
theorem dX7_copyFrom_144 : decode cX7_copyFrom 144 = .ok (.iload_n 2, 1) := by decide +kernel
theorem dX7_copyFrom_145 : decode cX7_copyFrom 145 = .ok (.aaload, 1) := by decide +kernel
theorem dX7_copyFrom_146 : decode cX7_copyFrom 146 = .ok (.getfield 80, 3) := by decide +kernel
theorem dX7_copyFrom_149 : decode cX7_copyFrom 149 = .ok (.invokevirtual 83, 3) := by decide +kernel
theorem dX7_copyFrom_152 : decode cX7_copyFrom 152 = .ok (.iinc 2 1, 3) := by decide +kernel
theorem dX7_copyFrom_155 : decode cX7_copyFrom 155 = .ok (.goto (-35), 3) := by decide +kernel
theorem dX7_copyFrom_158 : decode cX7_copyFrom 158 = .ok (.aload_n 0, 1) := by decide +kernel
theorem dX7_copyFrom_159 : decode cX7_copyFrom 159 = .ok (.aload_n 1, 1) := by decide +kernel
theorem dX7_copyFrom_160 : decode cX7_copyFrom 160 = .ok (.getfield 86, 3) := by decide +kernel
theorem dX7_copyFrom_163 : decode cX7_copyFrom 163 = .ok (.putfield 86, 3) := by decide +kernel
theorem dX7_copyFrom_166 : decode cX7_copyFrom 166 = .ok (.aload_n 1, 1) := by decide +kernel
theorem dX7_copyFrom_167 : decode cX7_copyFrom 167 = .ok (.getfield 37, 3) := by decide +kernel
theorem dX7_copyFrom_170 : decode cX7_copyFrom 170 = .ok (.iconst 0, 1) := by decide +kernel
theorem dX7_copyFrom_171 : decode cX7_copyFrom 171 = .ok (.aload_n 0, 1) := by decide +kernel
theorem dX7_copyFrom_172 : decode cX7_copyFrom 172 = .ok (.getfield 37, 3) := by decide +kernel
theorem dX7_copyFrom_175 : decode cX7_copyFrom 175 = .ok (.iconst 0, 1) := by decide +kernel
theorem dX7_copyFrom_176 : decode cX7_copyFrom 176 = .ok (.aload_n 0, 1) := by decide +kernel
theorem dX7_copyFrom_177 : decode cX7_copyFrom 177 = .ok (.getfield 86, 3) := by decide +kernel
theorem dX7_copyFrom_180 : decode cX7_copyFrom 180 = .ok (.invokestatic 89, 3) := by decide +kernel
theorem dX7_copyFrom_183 : decode cX7_copyFrom 183 = .ok (.aload_n 0, 1) := by decide +kernel
theorem dX7_copyFrom_184 : decode cX7_copyFrom 184 = .ok (.aload_n 1, 1) := by decide +kernel
theorem dX7_copyFrom_185 : decode cX7_copyFrom 185 = .ok (.getfield 95, 3) := by decide +kernel
theorem dX7_copyFrom_188 : decode cX7_copyFrom 188 = .ok (.putfield 95, 3) := by decide +kernel
theorem dX7_copyFrom_191 : decode cX7_copyFrom 191 = .ok (.aload_n 1, 1) := by decide +kernel
theorem dX7_copyFrom_192 : decode cX7_copyFrom 192 = .ok (.getfield 40, 3) := by decide +kernel
theorem dX7_copyFrom_195 : decode cX7_copyFrom 195 = .ok (.iconst 0, 1) := by decide +kernel
theorem dX7_copyFrom_196 : decode cX7_copyFrom 196 = .ok (.aload_n 0, 1) := by decide +kernel
theorem dX7_copyFrom_197 : decode cX7_copyFrom 197 = .ok (.getfield 40, 3) := by decide +kernel
theorem dX7_copyFrom_200 : decode cX7_copyFrom 200 = .ok (.iconst 0, 1) := by decide +kernel
theorem dX7_copyFrom_201 : decode cX7_copyFrom 201 = .ok (.aload_n 0, 1) := by decide +kernel
theorem dX7_copyFrom_202 : decode cX7_copyFrom 202 = .ok (.getfield 95, 3) := by decide +kernel
theorem dX7_copyFrom_205 : decode cX7_copyFrom 205 = .ok (.invokestatic 89, 3) := by decide +kernel
theorem dX7_copyFrom_208 : decode cX7_copyFrom 208 = .ok (.aload_n 1, 1) := by decide +kernel
theorem dX7_copyFrom_209 : decode cX7_copyFrom 209 = .ok (.getfield 9, 3) := by decide +kernel
theorem dX7_copyFrom_212 : decode cX7_copyFrom 212 = .ok (.iconst 0, 1) := by decide +kernel
theorem dX7_copyFrom_213 : decode cX7_copyFrom 213 = .ok (.aload_n 0, 1) := by decide +kernel
theorem dX7_copyFrom_214 : decode cX7_copyFrom 214 = .ok (.getfield 9, 3) := by decide +kernel
theorem dX7_copyFrom_217 : decode cX7_copyFrom 217 = .ok (.iconst 0, 1) := by decide +kernel
theorem dX7_copyFrom_218 : decode cX7_copyFrom 218 = .ok (.bipush 6, 2) := by decide +kernel
theorem dX7_copyFrom_220 : decode cX7_copyFrom 220 = .ok (.invokestatic 89, 3) := by decide +kernel
theorem dX7_copyFrom_223 : decode cX7_copyFrom 223 = .ok (.return_, 1) := by decide +kernel
theorem dX7_hasShop_0 : decode cX7_hasShop 0 = .ok (.iload_n 1, 1) := by decide +kernel
theorem dX7_hasShop_1 : decode cX7_hasShop 1 = .ok (.iconst 0, 1) := by decide +kernel
theorem dX7_hasShop_2 : decode cX7_hasShop 2 = .ok (.aload_n 0, 1) := by decide +kernel
theorem dX7_hasShop_3 : decode cX7_hasShop 3 = .ok (.getfield 64, 3) := by decide +kernel
theorem dX7_hasShop_6 : decode cX7_hasShop 6 = .ok (.iconst 1, 1) := by decide +kernel
theorem dX7_hasShop_7 : decode cX7_hasShop 7 = .ok (.isub, 1) := by decide +kernel
theorem dX7_hasShop_8 : decode cX7_hasShop 8 = .ok (.invokestatic 98, 3) := by decide +kernel
theorem dX7_hasShop_11 : decode cX7_hasShop 11 = .ok (.ireturn, 1) := by decide +kernel
theorem dX7_hasCustomer_0 : decode cX7_hasCustomer 0 = .ok (.iload_n 1, 1) := by decide +kernel
theorem dX7_hasCustomer_1 : decode cX7_hasCustomer 1 = .ok (.iconst 0, 1) := by decide +kernel
theorem dX7_hasCustomer_2 : decode cX7_hasCustomer 2 = .ok (.aload_n 0, 1) := by decide +kernel
theorem dX7_hasCustomer_3 : decode cX7_hasCustomer 3 = .ok (.getfield 71, 3) := by decide +kernel
theorem dX7_hasCustomer_6 : decode cX7_hasCustomer 6 = .ok (.iconst 1, 1) := by decide +kernel
theorem dX7_hasCustomer_7 : decode cX7_hasCustomer 7 = .ok (.isub, 1) := by decide +kernel
theorem dX7_hasCustomer_8 : decode cX7_hasCustomer 8 = .ok (.invokestatic 98, 3) := by decide +kernel
theorem dX7_hasCustomer_11 : decode cX7_hasCustomer 11 = .ok (.ireturn, 1) := by decide +kernel
theorem dX7_welcome_0 : decode cX7_welcome 0 = .ok (.aload_n 0, 1) := by decide +kernel
theorem dX7_welcome_1 : decode cX7_welcome 1 = .ok (.getfield 23, 3) := by decide +kernel
theorem dX7_welcome_4 : decode cX7_welcome 4 = .ok (.aload_n 0, 1) := by decide +kernel
theorem dX7_welcome_5 : decode cX7_welcome 5 = .ok (.getfield 71, 3) := by decide +kernel
theorem dX7_welcome_8 : decode cX7_welcome 8 = .ok (.aaload, 1) := by decide +kernel
theorem dX7_welcome_9 : decode cX7_welcome 9 = .ok (.astore 4, 2) := by decide +kernel
theorem dX7_welcome_11 : decode cX7_welcome 11 = .ok (.aload 4, 2) := by decide +kernel
theorem dX7_welcome_13 : decode cX7_welcome 13 = .ok (.iload_n 1, 1) := by decide +kernel
theorem dX7_welcome_14 : decode cX7_welcome 14 = .ok (.putfield 102, 3) := by decide +kernel
theorem dX7_welcome_17 : decode cX7_welcome 17 = .ok (.aload 4, 2) := by decide +kernel
theorem dX7_welcome_19 : decode cX7_welcome 19 = .ok (.iload_n 2, 1) := by decide +kernel
theorem dX7_welcome_20 : decode cX7_welcome 20 = .ok (.bipush 10, 2) := by decide +kernel
theorem dX7_welcome_22 : decode cX7_welcome 22 = .ok (.idiv, 1) := by decide +kernel
theorem dX7_welcome_23 : decode cX7_welcome 23 = .ok (.putfield 105, 3) := by decide +kernel
theorem dX7_welcome_26 : decode cX7_welcome 26 = .ok (.aload 4, 2) := by decide +kernel
theorem dX7_welcome_28 : decode cX7_welcome 28 = .ok (.iload_n 2, 1) := by decide +kernel
theorem dX7_welcome_29 : decode cX7_welcome 29 = .ok (.bipush 10, 2) := by decide +kernel
theorem dX7_welcome_31 : decode cX7_welcome 31 = .ok (.irem, 1) := by decide +kernel
theorem dX7_welcome_32 : decode cX7_welcome 32 = .ok (.putfield 108, 3) := by decide +kernel
theorem dX7_welcome_35 : decode cX7_welcome 35 = .ok (.aload 4, 2) := by decide +kernel
theorem dX7_welcome_37 : decode cX7_welcome 37 = .ok (.iload_n 3, 1) := by decide +kernel
theorem dX7_welcome_38 : decode cX7_welcome 38 = .ok (.putfield 111, 3) := by decide +kernel
theorem dX7_welcome_41 : decode cX7_welcome 41 = .ok (.aload_n 0, 1) := by decide +kernel
theorem dX7_welcome_42 : decode cX7_welcome 42 = .ok (.dup, 1) := by decide +kernel
theorem dX7_welcome_43 : decode cX7_welcome 43 = .ok (.getfield 71, 3) := by decide +kernel
theorem dX7_welcome_46 : decode cX7_welcome 46 = .ok (.iconst 1, 1) := by decide +kernel
theorem dX7_welcome_47 : decode cX7_welcome 47 = .ok (.iadd, 1) := by decide +kernel
theorem dX7_welcome_48 : decode cX7_welcome 48 = .ok (.putfield 71, 3) := by decide +kernel
theorem dX7_welcome_51 : decode cX7_welcome 51 = .ok (.return_, 1) := by decide +kernel
theorem dX7_factOf_0 : decode cX7_factOf 0 = .ok (.aload_n 0, 1) := by decide +kernel
theorem dX7_factOf_1 : decode cX7_factOf 1 = .ok (.getfield 17, 3) := by decide +kernel
theorem dX7_factOf_4 : decode cX7_factOf 4 = .ok (.iload_n 1, 1) := by decide +kernel
theorem dX7_factOf_5 : decode cX7_factOf 5 = .ok (.aaload, 1) := by decide +kernel
theorem dX7_factOf_6 : decode cX7_factOf 6 = .ok (.astore_n 3, 1) := by decide +kernel
theorem dX7_factOf_7 : decode cX7_factOf 7 = .ok (.iload_n 2, 1) := by decide +kernel
theorem dX7_factOf_8 : decode cX7_factOf 8 = .ok (.ifCond .ne 8, 3) := by decide +kernel
theorem dX7_factOf_11 : decode cX7_factOf 11 = .ok (.aload_n 3, 1) := by decide +kernel
theorem dX7_factOf_12 : decode cX7_factOf 12 = .ok (.getfield 114, 3) := by decide +kernel
theorem dX7_factOf_15 : decode cX7_factOf 15 = .ok (.ireturn, 1) := by decide +kernel
theorem dX7_factOf_16 : decode cX7_factOf 16 = .ok (.iload_n 2, 1) := by decide +kernel
theorem dX7_factOf_17 : decode cX7_factOf 17 = .ok (.iconst 1, 1) := by decide +kernel
theorem dX7_factOf_18 : decode cX7_factOf 18 = .ok (.if_icmp .ne 8, 3) := by decide +kernel
theorem dX7_factOf_21 : decode cX7_factOf 21 = .ok (.aload_n 3, 1) := by decide +kernel
theorem dX7_factOf_22 : decode cX7_factOf 22 = .ok (.getfield 117, 3) := by decide +kernel
theorem dX7_factOf_25 : decode cX7_factOf 25 = .ok (.ireturn, 1) := by decide +kernel
theorem dX7_factOf_26 : decode cX7_factOf 26 = .ok (.iload_n 2, 1) := by decide +kernel
theorem dX7_factOf_27 : decode cX7_factOf 27 = .ok (.iconst 2, 1) := by decide +kernel
theorem dX7_factOf_28 : decode cX7_factOf 28 = .ok (.if_icmp .ne 8, 3) := by decide +kernel
theorem dX7_factOf_31 : decode cX7_factOf 31 = .ok (.aload_n 3, 1) := by decide +kernel
theorem dX7_factOf_32 : decode cX7_factOf 32 = .ok (.getfield 120, 3) := by decide +kernel
theorem dX7_factOf_35 : decode cX7_factOf 35 = .ok (.ireturn, 1) := by decide +kernel
theorem dX7_factOf_36 : decode cX7_factOf 36 = .ok (.iload_n 2, 1) := by decide +kernel
theorem dX7_factOf_37 : decode cX7_factOf 37 = .ok (.bipush 9, 2) := by decide +kernel
theorem dX7_factOf_39 : decode cX7_factOf 39 = .ok (.if_icmp .ge 12, 3) := by decide +kernel
theorem dX7_factOf_42 : decode cX7_factOf 42 = .ok (.aload_n 3, 1) := by decide +kernel
theorem dX7_factOf_43 : decode cX7_factOf 43 = .ok (.getfield 123, 3) := by decide +kernel
theorem dX7_factOf_46 : decode cX7_factOf 46 = .ok (.iload_n 2, 1) := by decide +kernel
theorem dX7_factOf_47 : decode cX7_factOf 47 = .ok (.iconst 3, 1) := by decide +kernel
theorem dX7_factOf_48 : decode cX7_factOf 48 = .ok (.isub, 1) := by decide +kernel
theorem dX7_factOf_49 : decode cX7_factOf 49 = .ok (.iaload, 1) := by decide +kernel
theorem dX7_factOf_50 : decode cX7_factOf 50 = .ok (.ireturn, 1) := by decide +kernel
theorem dX7_factOf_51 : decode cX7_factOf 51 = .ok (.iload_n 2, 1) := by decide +kernel
theorem dX7_factOf_52 : decode cX7_factOf 52 = .ok (.bipush 15, 2) := by decide +kernel
theorem dX7_factOf_54 : decode cX7_factOf 54 = .ok (.if_icmp .ge 15, 3) := by decide +kernel
theorem dX7_factOf_57 : decode cX7_factOf 57 = .ok (.aload_n 3, 1) := by decide +kernel
theorem dX7_factOf_58 : decode cX7_factOf 58 = .ok (.getfield 126, 3) := by decide +kernel
theorem dX7_factOf_61 : decode cX7_factOf 61 = .ok (.iload_n 2, 1) := by decide +kernel
theorem dX7_factOf_62 : decode cX7_factOf 62 = .ok (.bipush 9, 2) := by decide +kernel
theorem dX7_factOf_64 : decode cX7_factOf 64 = .ok (.isub, 1) := by decide +kernel
theorem dX7_factOf_65 : decode cX7_factOf 65 = .ok (.iaload, 1) := by decide +kernel
theorem dX7_factOf_66 : decode cX7_factOf 66 = .ok (.goto 8, 3) := by decide +kernel
theorem dX7_factOf_69 : decode cX7_factOf 69 = .ok (.aload_n 0, 1) := by decide +kernel
theorem dX7_factOf_70 : decode cX7_factOf 70 = .ok (.iload_n 1, 1) := by decide +kernel
theorem dX7_factOf_71 : decode cX7_factOf 71 = .ok (.invokevirtual 129, 3) := by decide +kernel
theorem dX7_factOf_74 : decode cX7_factOf 74 = .ok (.ireturn, 1) := by decide +kernel
theorem dX7_leftOf_0 : decode cX7_leftOf 0 = .ok (.iload_n 1, 1) := by decide +kernel
theorem dX7_leftOf_1 : decode cX7_leftOf 1 = .ok (.ifCond .le 7, 3) := by decide +kernel
theorem dX7_leftOf_4 : decode cX7_leftOf 4 = .ok (.iload_n 1, 1) := by decide +kernel
theorem dX7_leftOf_5 : decode cX7_leftOf 5 = .ok (.iconst 1, 1) := by decide +kernel
theorem dX7_leftOf_6 : decode cX7_leftOf 6 = .ok (.isub, 1) := by decide +kernel
theorem dX7_leftOf_7 : decode cX7_leftOf 7 = .ok (.ireturn, 1) := by decide +kernel
theorem dX7_leftOf_8 : decode cX7_leftOf 8 = .ok (.aload_n 0, 1) := by decide +kernel
theorem dX7_leftOf_9 : decode cX7_leftOf 9 = .ok (.getfield 52, 3) := by decide +kernel
theorem dX7_leftOf_12 : decode cX7_leftOf 12 = .ok (.iconst 1, 1) := by decide +kernel
theorem dX7_leftOf_13 : decode cX7_leftOf 13 = .ok (.if_icmp .ne 12, 3) := by decide +kernel
theorem dX7_leftOf_16 : decode cX7_leftOf 16 = .ok (.aload_n 0, 1) := by decide +kernel
theorem dX7_leftOf_17 : decode cX7_leftOf 17 = .ok (.getfield 64, 3) := by decide +kernel
theorem dX7_leftOf_20 : decode cX7_leftOf 20 = .ok (.iconst 1, 1) := by decide +kernel
theorem dX7_leftOf_21 : decode cX7_leftOf 21 = .ok (.isub, 1) := by decide +kernel
theorem dX7_leftOf_22 : decode cX7_leftOf 22 = .ok (.goto 4, 3) := by decide +kernel
theorem dX7_leftOf_25 : decode cX7_leftOf 25 = .ok (.iconst (-1), 1) := by decide +kernel
theorem dX7_leftOf_26 : decode cX7_leftOf 26 = .ok (.ireturn, 1) := by decide +kernel
theorem dX7_stockOf_0 : decode cX7_stockOf 0 = .ok (.iload_n 1, 1) := by decide +kernel
theorem dX7_stockOf_1 : decode cX7_stockOf 1 = .ok (.ifCond .ge 7, 3) := by decide +kernel
theorem dX7_stockOf_4 : decode cX7_stockOf 4 = .ok (.iconst 0, 1) := by decide +kernel
theorem dX7_stockOf_5 : decode cX7_stockOf 5 = .ok (.goto 14, 3) := by decide +kernel
theorem dX7_stockOf_8 : decode cX7_stockOf 8 = .ok (.aload_n 0, 1) := by decide +kernel
theorem dX7_stockOf_9 : decode cX7_stockOf 9 = .ok (.getfield 17, 3) := by decide +kernel
theorem dX7_stockOf_12 : decode cX7_stockOf 12 = .ok (.iload_n 1, 1) := by decide +kernel
theorem dX7_stockOf_13 : decode cX7_stockOf 13 = .ok (.aaload, 1) := by decide +kernel
theorem dX7_stockOf_14 : decode cX7_stockOf 14 = .ok (.getfield 126, 3) := by decide +kernel
theorem dX7_stockOf_17 : decode cX7_stockOf 17 = .ok (.iload_n 2, 1) := by decide +kernel
theorem dX7_stockOf_18 : decode cX7_stockOf 18 = .ok (.iaload, 1) := by decide +kernel
theorem dX7_stockOf_19 : decode cX7_stockOf 19 = .ok (.ireturn, 1) := by decide +kernel
theorem dX7_maySell_0 : decode cX7_maySell 0 = .ok (.aload_n 0, 1) := by decide +kernel
theorem dX7_maySell_1 : decode cX7_maySell 1 = .ok (.iload_n 1, 1) := by decide +kernel
theorem dX7_maySell_2 : decode cX7_maySell 2 = .ok (.invokevirtual 133, 3) := by decide +kernel
theorem dX7_maySell_5 : decode cX7_maySell 5 = .ok (.istore_n 3, 1) := by decide +kernel
theorem dX7_maySell_6 : decode cX7_maySell 6 = .ok (.aload_n 0, 1) := by decide +kernel
theorem dX7_maySell_7 : decode cX7_maySell 7 = .ok (.getfield 17, 3) := by decide +kernel
theorem dX7_maySell_10 : decode cX7_maySell 10 = .ok (.iload_n 1, 1) := by decide +kernel
theorem dX7_maySell_11 : decode cX7_maySell 11 = .ok (.aaload, 1) := by decide +kernel
theorem dX7_maySell_12 : decode cX7_maySell 12 = .ok (.getfield 126, 3) := by decide +kernel
theorem dX7_maySell_15 : decode cX7_maySell 15 = .ok (.iload_n 2, 1) := by decide +kernel
theorem dX7_maySell_16 : decode cX7_maySell 16 = .ok (.iaload, 1) := by decide +kernel
theorem dX7_maySell_17 : decode cX7_maySell 17 = .ok (.ifCond .eq 12, 3) := by decide +kernel
theorem dX7_maySell_20 : decode cX7_maySell 20 = .ok (.aload_n 0, 1) := by decide +kernel
theorem dX7_maySell_21 : decode cX7_maySell 21 = .ok (.iload_n 3, 1) := by decide +kernel
theorem dX7_maySell_22 : decode cX7_maySell 22 = .ok (.iload_n 2, 1) := by decide +kernel
theorem dX7_maySell_23 : decode cX7_maySell 23 = .ok (.invokevirtual 136, 3) := by decide +kernel
theorem dX7_maySell_26 : decode cX7_maySell 26 = .ok (.ifCond .le 5, 3) := by decide +kernel
theorem dX7_maySell_29 : decode cX7_maySell 29 = .ok (.iconst 0, 1) := by decide +kernel
theorem dX7_maySell_30 : decode cX7_maySell 30 = .ok (.ireturn, 1) := by decide +kernel
theorem dX7_maySell_31 : decode cX7_maySell 31 = .ok (.iload_n 3, 1) := by decide +kernel
theorem dX7_maySell_32 : decode cX7_maySell 32 = .ok (.ifCond .ge 5, 3) := by decide +kernel
theorem dX7_maySell_35 : decode cX7_maySell 35 = .ok (.iconst 1, 1) := by decide +kernel
theorem dX7_maySell_36 : decode cX7_maySell 36 = .ok (.ireturn, 1) := by decide +kernel
theorem dX7_maySell_37 : decode cX7_maySell 37 = .ok (.aload_n 0, 1) := by decide +kernel
theorem dX7_maySell_38 : decode cX7_maySell 38 = .ok (.getfield 55, 3) := by decide +kernel
theorem dX7_maySell_41 : decode cX7_maySell 41 = .ok (.iconst 1, 1) := by decide +kernel
theorem dX7_maySell_42 : decode cX7_maySell 42 = .ok (.if_icmp .ne 22, 3) := by decide +kernel
theorem dX7_maySell_45 : decode cX7_maySell 45 = .ok (.aload_n 0, 1) := by decide +kernel
theorem dX7_maySell_46 : decode cX7_maySell 46 = .ok (.aload_n 0, 1) := by decide +kernel
theorem dX7_maySell_47 : decode cX7_maySell 47 = .ok (.iload_n 3, 1) := by decide +kernel
theorem dX7_maySell_48 : decode cX7_maySell 48 = .ok (.invokevirtual 133, 3) := by decide +kernel
theorem dX7_maySell_51 : decode cX7_maySell 51 = .ok (.iload_n 2, 1) := by decide +kernel
theorem dX7_maySell_52 : decode cX7_maySell 52 = .ok (.invokevirtual 136, 3) := by decide +kernel
theorem dX7_maySell_55 : decode cX7_maySell 55 = .ok (.ifCond .ne 7, 3) := by decide +kernel
theorem dX7_maySell_58 : decode cX7_maySell 58 = .ok (.iconst 1, 1) := by decide +kernel
theorem dX7_maySell_59 : decode cX7_maySell 59 = .ok (.goto 4, 3) := by decide +kernel
theorem dX7_maySell_62 : decode cX7_maySell 62 = .ok (.iconst 0, 1) := by decide +kernel
theorem dX7_maySell_63 : decode cX7_maySell 63 = .ok (.ireturn, 1) := by decide +kernel
theorem dX7_maySell_64 : decode cX7_maySell 64 = .ok (.aload_n 0, 1) := by decide +kernel
theorem dX7_maySell_65 : decode cX7_maySell 65 = .ok (.getfield 55, 3) := by decide +kernel
theorem dX7_maySell_68 : decode cX7_maySell 68 = .ok (.iconst 2, 1) := by decide +kernel
theorem dX7_maySell_69 : decode cX7_maySell 69 = .ok (.if_icmp .ne 19, 3) := by decide +kernel
theorem dX7_maySell_72 : decode cX7_maySell 72 = .ok (.aload_n 0, 1) := by decide +kernel
theorem dX7_maySell_73 : decode cX7_maySell 73 = .ok (.getfield 17, 3) := by decide +kernel
theorem dX7_maySell_76 : decode cX7_maySell 76 = .ok (.iload_n 3, 1) := by decide +kernel
theorem dX7_maySell_77 : decode cX7_maySell 77 = .ok (.aaload, 1) := by decide +kernel
theorem dX7_maySell_78 : decode cX7_maySell 78 = .ok (.getfield 140, 3) := by decide +kernel
theorem dX7_maySell_81 : decode cX7_maySell 81 = .ok (.iload_n 2, 1) := by decide +kernel
theorem dX7_maySell_82 : decode cX7_maySell 82 = .ok (.ishr, 1) := by decide +kernel
theorem dX7_maySell_83 : decode cX7_maySell 83 = .ok (.iconst 1, 1) := by decide +kernel
theorem dX7_maySell_84 : decode cX7_maySell 84 = .ok (.iand, 1) := by decide +kernel
theorem dX7_maySell_85 : decode cX7_maySell 85 = .ok (.ifCond .ne 7, 3) := by decide +kernel
theorem dX7_maySell_88 : decode cX7_maySell 88 = .ok (.iconst 1, 1) := by decide +kernel
theorem dX7_maySell_89 : decode cX7_maySell 89 = .ok (.goto 4, 3) := by decide +kernel
theorem dX7_maySell_92 : decode cX7_maySell 92 = .ok (.iconst 0, 1) := by decide +kernel
theorem dX7_maySell_93 : decode cX7_maySell 93 = .ok (.ireturn, 1) := by decide +kernel
theorem dX7_mayGoods_0 : decode cX7_mayGoods 0 = .ok (.iconst 0, 1) := by decide +kernel
theorem dX7_mayGoods_1 : decode cX7_mayGoods 1 = .ok (.istore_n 2, 1) := by decide +kernel
theorem dX7_mayGoods_2 : decode cX7_mayGoods 2 = .ok (.iconst 0, 1) := by decide +kernel
theorem dX7_mayGoods_3 : decode cX7_mayGoods 3 = .ok (.istore_n 3, 1) := by decide +kernel
theorem dX7_mayGoods_4 : decode cX7_mayGoods 4 = .ok (.iload_n 3, 1) := by decide +kernel
theorem dX7_mayGoods_5 : decode cX7_mayGoods 5 = .ok (.bipush 6, 2) := by decide +kernel
theorem dX7_mayGoods_7 : decode cX7_mayGoods 7 = .ok (.if_icmp .ge 24, 3) := by decide +kernel
theorem dX7_mayGoods_10 : decode cX7_mayGoods 10 = .ok (.aload_n 0, 1) := by decide +kernel
theorem dX7_mayGoods_11 : decode cX7_mayGoods 11 = .ok (.iload_n 1, 1) := by decide +kernel
theorem dX7_mayGoods_12 : decode cX7_mayGoods 12 = .ok (.iload_n 3, 1) := by decide +kernel
theorem dX7_mayGoods_13 : decode cX7_mayGoods 13 = .ok (.invokevirtual 143, 3) := by decide +kernel
theorem dX7_mayGoods_16 : decode cX7_mayGoods 16 = .ok (.ifCond .eq 9, 3) := by decide +kernel
theorem dX7_mayGoods_19 : decode cX7_mayGoods 19 = .ok (.iload_n 2, 1) := by decide +kernel
theorem dX7_mayGoods_20 : decode cX7_mayGoods 20 = .ok (.iconst 1, 1) := by decide +kernel
theorem dX7_mayGoods_21 : decode cX7_mayGoods 21 = .ok (.iload_n 3, 1) := by decide +kernel
theorem dX7_mayGoods_22 : decode cX7_mayGoods 22 = .ok (.ishl, 1) := by decide +kernel
theorem dX7_mayGoods_23 : decode cX7_mayGoods 23 = .ok (.ior, 1) := by decide +kernel
theorem dX7_mayGoods_24 : decode cX7_mayGoods 24 = .ok (.istore_n 2, 1) := by decide +kernel
theorem dX7_mayGoods_25 : decode cX7_mayGoods 25 = .ok (.iinc 3 1, 3) := by decide +kernel
theorem dX7_mayGoods_28 : decode cX7_mayGoods 28 = .ok (.goto (-24), 3) := by decide +kernel
theorem dX7_mayGoods_31 : decode cX7_mayGoods 31 = .ok (.iload_n 2, 1) := by decide +kernel
theorem dX7_mayGoods_32 : decode cX7_mayGoods 32 = .ok (.ireturn, 1) := by decide +kernel
theorem dX7_fillOf_0 : decode cX7_fillOf 0 = .ok (.aload_n 0, 1) := by decide +kernel
theorem dX7_fillOf_1 : decode cX7_fillOf 1 = .ok (.getfield 17, 3) := by decide +kernel
theorem dX7_fillOf_4 : decode cX7_fillOf 4 = .ok (.iload_n 1, 1) := by decide +kernel
theorem dX7_fillOf_5 : decode cX7_fillOf 5 = .ok (.aaload, 1) := by decide +kernel
theorem dX7_fillOf_6 : decode cX7_fillOf 6 = .ok (.astore_n 3, 1) := by decide +kernel
theorem dX7_fillOf_7 : decode cX7_fillOf 7 = .ok (.aload_n 3, 1) := by decide +kernel
theorem dX7_fillOf_8 : decode cX7_fillOf 8 = .ok (.getfield 123, 3) := by decide +kernel
theorem dX7_fillOf_11 : decode cX7_fillOf 11 = .ok (.iload_n 2, 1) := by decide +kernel
theorem dX7_fillOf_12 : decode cX7_fillOf 12 = .ok (.iaload, 1) := by decide +kernel
theorem dX7_fillOf_13 : decode cX7_fillOf 13 = .ok (.istore 4, 2) := by decide +kernel
theorem dX7_fillOf_15 : decode cX7_fillOf 15 = .ok (.aload_n 0, 1) := by decide +kernel
theorem dX7_fillOf_16 : decode cX7_fillOf 16 = .ok (.aload_n 0, 1) := by decide +kernel
theorem dX7_fillOf_17 : decode cX7_fillOf 17 = .ok (.iload_n 1, 1) := by decide +kernel
theorem dX7_fillOf_18 : decode cX7_fillOf 18 = .ok (.invokevirtual 133, 3) := by decide +kernel
theorem dX7_fillOf_21 : decode cX7_fillOf 21 = .ok (.iload_n 2, 1) := by decide +kernel
theorem dX7_fillOf_22 : decode cX7_fillOf 22 = .ok (.invokevirtual 136, 3) := by decide +kernel
theorem dX7_fillOf_25 : decode cX7_fillOf 25 = .ok (.istore 5, 2) := by decide +kernel
theorem dX7_fillOf_27 : decode cX7_fillOf 27 = .ok (.iload 5, 2) := by decide +kernel
theorem dX7_fillOf_29 : decode cX7_fillOf 29 = .ok (.ifCond .le 7, 3) := by decide +kernel
theorem dX7_fillOf_32 : decode cX7_fillOf 32 = .ok (.iconst 0, 1) := by decide +kernel
theorem dX7_fillOf_33 : decode cX7_fillOf 33 = .ok (.goto 5, 3) := by decide +kernel
theorem dX7_fillOf_36 : decode cX7_fillOf 36 = .ok (.iload 4, 2) := by decide +kernel
theorem dX7_fillOf_38 : decode cX7_fillOf 38 = .ok (.istore 6, 2) := by decide +kernel
theorem dX7_fillOf_40 : decode cX7_fillOf 40 = .ok (.aload_n 3, 1) := by decide +kernel
theorem dX7_fillOf_41 : decode cX7_fillOf 41 = .ok (.getfield 114, 3) := by decide +kernel
theorem dX7_fillOf_44 : decode cX7_fillOf 44 = .ok (.tableswitch 112 1 6 #[40, 43, 48, 55, 43, 72], 40) := by decide +kernel
theorem dX7_fillOf_84 : decode cX7_fillOf 84 = .ok (.iload 6, 2) := by decide +kernel
theorem dX7_fillOf_86 : decode cX7_fillOf 86 = .ok (.ireturn, 1) := by decide +kernel
theorem dX7_fillOf_87 : decode cX7_fillOf 87 = .ok (.iload 4, 2) := by decide +kernel
theorem dX7_fillOf_89 : decode cX7_fillOf 89 = .ok (.iconst 2, 1) := by decide +kernel
theorem dX7_fillOf_90 : decode cX7_fillOf 90 = .ok (.idiv, 1) := by decide +kernel
theorem dX7_fillOf_91 : decode cX7_fillOf 91 = .ok (.ireturn, 1) := by decide +kernel
theorem dX7_fillOf_92 : decode cX7_fillOf 92 = .ok (.iconst 1, 1) := by decide +kernel
theorem dX7_fillOf_93 : decode cX7_fillOf 93 = .ok (.iload 4, 2) := by decide +kernel
theorem dX7_fillOf_95 : decode cX7_fillOf 95 = .ok (.invokestatic 147, 3) := by decide +kernel
theorem dX7_fillOf_98 : decode cX7_fillOf 98 = .ok (.ireturn, 1) := by decide +kernel
theorem dX7_fillOf_99 : decode cX7_fillOf 99 = .ok (.iload 6, 2) := by decide +kernel
theorem dX7_fillOf_101 : decode cX7_fillOf 101 = .ok (.ifCond .ne 7, 3) := by decide +kernel
theorem dX7_fillOf_104 : decode cX7_fillOf 104 = .ok (.iconst 0, 1) := by decide +kernel
theorem dX7_fillOf_105 : decode cX7_fillOf 105 = .ok (.goto 10, 3) := by decide +kernel
theorem dX7_fillOf_108 : decode cX7_fillOf 108 = .ok (.iload 6, 2) := by decide +kernel
theorem dX7_fillOf_110 : decode cX7_fillOf 110 = .ok (.aload_n 3, 1) := by decide +kernel
theorem dX7_fillOf_111 : decode cX7_fillOf 111 = .ok (.getfield 117, 3) := by decide +kernel
theorem dX7_fillOf_114 : decode cX7_fillOf 114 = .ok (.iadd, 1) := by decide +kernel
theorem dX7_fillOf_115 : decode cX7_fillOf 115 = .ok (.ireturn, 1) := by decide +kernel
theorem dX7_fillOf_116 : decode cX7_fillOf 116 = .ok (.aload_n 0, 1) := by decide +kernel
theorem dX7_fillOf_117 : decode cX7_fillOf 117 = .ok (.getfield 33, 3) := by decide +kernel
theorem dX7_fillOf_120 : decode cX7_fillOf 120 = .ok (.iconst 0, 1) := by decide +kernel
theorem dX7_fillOf_121 : decode cX7_fillOf 121 = .ok (.aaload, 1) := by decide +kernel
theorem dX7_fillOf_122 : decode cX7_fillOf 122 = .ok (.invokevirtual 152, 3) := by decide +kernel
theorem dX7_fillOf_125 : decode cX7_fillOf 125 = .ok (.ifCond .ne 6, 3) := by decide +kernel
theorem dX7_fillOf_128 : decode cX7_fillOf 128 = .ok (.iload 4, 2) := by decide +kernel
theorem dX7_fillOf_130 : decode cX7_fillOf 130 = .ok (.ireturn, 1) := by decide +kernel
theorem dX7_fillOf_131 : decode cX7_fillOf 131 = .ok (.aload_n 0, 1) := by decide +kernel
theorem dX7_fillOf_132 : decode cX7_fillOf 132 = .ok (.getfield 33, 3) := by decide +kernel
theorem dX7_fillOf_135 : decode cX7_fillOf 135 = .ok (.iconst 0, 1) := by decide +kernel
theorem dX7_fillOf_136 : decode cX7_fillOf 136 = .ok (.aaload, 1) := by decide +kernel
theorem dX7_fillOf_137 : decode cX7_fillOf 137 = .ok (.iload 4, 2) := by decide +kernel
theorem dX7_fillOf_139 : decode cX7_fillOf 139 = .ok (.iload 5, 2) := by decide +kernel
theorem dX7_fillOf_141 : decode cX7_fillOf 141 = .ok (.iload_n 2, 1) := by decide +kernel
theorem dX7_fillOf_142 : decode cX7_fillOf 142 = .ok (.aload_n 3, 1) := by decide +kernel
theorem dX7_fillOf_143 : decode cX7_fillOf 143 = .ok (.getfield 117, 3) := by decide +kernel
theorem dX7_fillOf_146 : decode cX7_fillOf 146 = .ok (.invokevirtual 156, 3) := by decide +kernel
theorem dX7_fillOf_149 : decode cX7_fillOf 149 = .ok (.iconst 0, 1) := by decide +kernel
theorem dX7_fillOf_150 : decode cX7_fillOf 150 = .ok (.bipush 99, 2) := by decide +kernel
theorem dX7_fillOf_152 : decode cX7_fillOf 152 = .ok (.invokestatic 160, 3) := by decide +kernel
theorem dX7_fillOf_155 : decode cX7_fillOf 155 = .ok (.ireturn, 1) := by decide +kernel
theorem dX7_fillOf_156 : decode cX7_fillOf 156 = .ok (.iload 4, 2) := by decide +kernel
theorem dX7_fillOf_158 : decode cX7_fillOf 158 = .ok (.ireturn, 1) := by decide +kernel
theorem dX7_priceOf_0 : decode cX7_priceOf 0 = .ok (.aload_n 0, 1) := by decide +kernel
theorem dX7_priceOf_1 : decode cX7_priceOf 1 = .ok (.getfield 17, 3) := by decide +kernel
theorem dX7_priceOf_4 : decode cX7_priceOf 4 = .ok (.iload_n 1, 1) := by decide +kernel
theorem dX7_priceOf_5 : decode cX7_priceOf 5 = .ok (.aaload, 1) := by decide +kernel
theorem dX7_priceOf_6 : decode cX7_priceOf 6 = .ok (.astore_n 3, 1) := by decide +kernel
theorem dX7_priceOf_7 : decode cX7_priceOf 7 = .ok (.aload_n 0, 1) := by decide +kernel
theorem dX7_priceOf_8 : decode cX7_priceOf 8 = .ok (.getfield 9, 3) := by decide +kernel
theorem dX7_priceOf_11 : decode cX7_priceOf 11 = .ok (.iload_n 2, 1) := by decide +kernel
theorem dX7_priceOf_12 : decode cX7_priceOf 12 = .ok (.iaload, 1) := by decide +kernel
theorem dX7_priceOf_13 : decode cX7_priceOf 13 = .ok (.istore 4, 2) := by decide +kernel
theorem dX7_priceOf_15 : decode cX7_priceOf 15 = .ok (.aload_n 3, 1) := by decide +kernel
theorem dX7_priceOf_16 : decode cX7_priceOf 16 = .ok (.getfield 114, 3) := by decide +kernel
theorem dX7_priceOf_19 : decode cX7_priceOf 19 = .ok (.tableswitch 98 2 6 #[33, 43, 43, 33, 48], 33) := by decide +kernel
theorem dX7_priceOf_52 : decode cX7_priceOf 52 = .ok (.iconst 2, 1) := by decide +kernel
theorem dX7_priceOf_53 : decode cX7_priceOf 53 = .ok (.iload 4, 2) := by decide +kernel
theorem dX7_priceOf_55 : decode cX7_priceOf 55 = .ok (.imul, 1) := by decide +kernel
theorem dX7_priceOf_56 : decode cX7_priceOf 56 = .ok (.aload_n 3, 1) := by decide +kernel
theorem dX7_priceOf_57 : decode cX7_priceOf 57 = .ok (.getfield 117, 3) := by decide +kernel
theorem dX7_priceOf_60 : decode cX7_priceOf 60 = .ok (.iadd, 1) := by decide +kernel
theorem dX7_priceOf_61 : decode cX7_priceOf 61 = .ok (.ireturn, 1) := by decide +kernel
theorem dX7_priceOf_62 : decode cX7_priceOf 62 = .ok (.iconst 3, 1) := by decide +kernel
theorem dX7_priceOf_63 : decode cX7_priceOf 63 = .ok (.iload 4, 2) := by decide +kernel
theorem dX7_priceOf_65 : decode cX7_priceOf 65 = .ok (.imul, 1) := by decide +kernel
theorem dX7_priceOf_66 : decode cX7_priceOf 66 = .ok (.ireturn, 1) := by decide +kernel
theorem dX7_priceOf_67 : decode cX7_priceOf 67 = .ok (.aload_n 0, 1) := by decide +kernel
theorem dX7_priceOf_68 : decode cX7_priceOf 68 = .ok (.getfield 33, 3) := by decide +kernel
theorem dX7_priceOf_71 : decode cX7_priceOf 71 = .ok (.iconst 1, 1) := by decide +kernel
theorem dX7_priceOf_72 : decode cX7_priceOf 72 = .ok (.aaload, 1) := by decide +kernel
theorem dX7_priceOf_73 : decode cX7_priceOf 73 = .ok (.invokevirtual 152, 3) := by decide +kernel
theorem dX7_priceOf_76 : decode cX7_priceOf 76 = .ok (.ifCond .ne 8, 3) := by decide +kernel
theorem dX7_priceOf_79 : decode cX7_priceOf 79 = .ok (.iconst 2, 1) := by decide +kernel
theorem dX7_priceOf_80 : decode cX7_priceOf 80 = .ok (.iload 4, 2) := by decide +kernel
theorem dX7_priceOf_82 : decode cX7_priceOf 82 = .ok (.imul, 1) := by decide +kernel
theorem dX7_priceOf_83 : decode cX7_priceOf 83 = .ok (.ireturn, 1) := by decide +kernel
theorem dX7_priceOf_84 : decode cX7_priceOf 84 = .ok (.aload_n 0, 1) := by decide +kernel
theorem dX7_priceOf_85 : decode cX7_priceOf 85 = .ok (.getfield 33, 3) := by decide +kernel
theorem dX7_priceOf_88 : decode cX7_priceOf 88 = .ok (.iconst 1, 1) := by decide +kernel
theorem dX7_priceOf_89 : decode cX7_priceOf 89 = .ok (.aaload, 1) := by decide +kernel
theorem dX7_priceOf_90 : decode cX7_priceOf 90 = .ok (.iload 4, 2) := by decide +kernel
theorem dX7_priceOf_92 : decode cX7_priceOf 92 = .ok (.aload_n 3, 1) := by decide +kernel
theorem dX7_priceOf_93 : decode cX7_priceOf 93 = .ok (.getfield 126, 3) := by decide +kernel
theorem dX7_priceOf_96 : decode cX7_priceOf 96 = .ok (.iload_n 2, 1) := by decide +kernel
theorem dX7_priceOf_97 : decode cX7_priceOf 97 = .ok (.iaload, 1) := by decide +kernel
theorem dX7_priceOf_98 : decode cX7_priceOf 98 = .ok (.aload_n 0, 1) := by decide +kernel
theorem dX7_priceOf_99 : decode cX7_priceOf 99 = .ok (.getfield 58, 3) := by decide +kernel
theorem dX7_priceOf_102 : decode cX7_priceOf 102 = .ok (.aload_n 3, 1) := by decide +kernel
theorem dX7_priceOf_103 : decode cX7_priceOf 103 = .ok (.getfield 117, 3) := by decide +kernel
theorem dX7_priceOf_106 : decode cX7_priceOf 106 = .ok (.invokevirtual 156, 3) := by decide +kernel
theorem dX7_priceOf_109 : decode cX7_priceOf 109 = .ok (.iconst 0, 1) := by decide +kernel
theorem dX7_priceOf_110 : decode cX7_priceOf 110 = .ok (.sipush 999, 3) := by decide +kernel
theorem dX7_priceOf_113 : decode cX7_priceOf 113 = .ok (.invokestatic 160, 3) := by decide +kernel
theorem dX7_priceOf_116 : decode cX7_priceOf 116 = .ok (.ireturn, 1) := by decide +kernel
theorem dX7_priceOf_117 : decode cX7_priceOf 117 = .ok (.iconst 2, 1) := by decide +kernel
theorem dX7_priceOf_118 : decode cX7_priceOf 118 = .ok (.iload 4, 2) := by decide +kernel
theorem dX7_priceOf_120 : decode cX7_priceOf 120 = .ok (.imul, 1) := by decide +kernel
theorem dX7_priceOf_121 : decode cX7_priceOf 121 = .ok (.ireturn, 1) := by decide +kernel
theorem dX7_passMorning_0 : decode cX7_passMorning 0 = .ok (.iconst 0, 1) := by decide +kernel
theorem dX7_passMorning_1 : decode cX7_passMorning 1 = .ok (.istore_n 1, 1) := by decide +kernel
theorem dX7_passMorning_2 : decode cX7_passMorning 2 = .ok (.iload_n 1, 1) := by decide +kernel
theorem dX7_passMorning_3 : decode cX7_passMorning 3 = .ok (.aload_n 0, 1) := by decide +kernel
theorem dX7_passMorning_4 : decode cX7_passMorning 4 = .ok (.getfield 64, 3) := by decide +kernel
theorem dX7_passMorning_7 : decode cX7_passMorning 7 = .ok (.if_icmp .ge 14, 3) := by decide +kernel
theorem dX7_passMorning_10 : decode cX7_passMorning 10 = .ok (.aload_n 0, 1) := by decide +kernel
theorem dX7_passMorning_11 : decode cX7_passMorning 11 = .ok (.iload_n 1, 1) := by decide +kernel
theorem dX7_passMorning_12 : decode cX7_passMorning 12 = .ok (.invokevirtual 164, 3) := by decide +kernel
theorem dX7_passMorning_15 : decode cX7_passMorning 15 = .ok (.iinc 1 1, 3) := by decide +kernel
theorem dX7_passMorning_18 : decode cX7_passMorning 18 = .ok (.goto (-16), 3) := by decide +kernel
theorem dX7_passMorning_21 : decode cX7_passMorning 21 = .ok (.iconst 0, 1) := by decide +kernel
theorem dX7_passMorning_22 : decode cX7_passMorning 22 = .ok (.istore_n 1, 1) := by decide +kernel
theorem dX7_passMorning_23 : decode cX7_passMorning 23 = .ok (.iload_n 1, 1) := by decide +kernel
theorem dX7_passMorning_24 : decode cX7_passMorning 24 = .ok (.aload_n 0, 1) := by decide +kernel
theorem dX7_passMorning_25 : decode cX7_passMorning 25 = .ok (.getfield 64, 3) := by decide +kernel
theorem dX7_passMorning_28 : decode cX7_passMorning 28 = .ok (.if_icmp .ge 30, 3) := by decide +kernel
theorem dX7_passMorning_31 : decode cX7_passMorning 31 = .ok (.aload_n 0, 1) := by decide +kernel
theorem dX7_passMorning_32 : decode cX7_passMorning 32 = .ok (.iload_n 1, 1) := by decide +kernel
theorem dX7_passMorning_33 : decode cX7_passMorning 33 = .ok (.invokevirtual 168, 3) := by decide +kernel
theorem dX7_passMorning_36 : decode cX7_passMorning 36 = .ok (.istore_n 2, 1) := by decide +kernel
theorem dX7_passMorning_37 : decode cX7_passMorning 37 = .ok (.iload_n 2, 1) := by decide +kernel
theorem dX7_passMorning_38 : decode cX7_passMorning 38 = .ok (.ifCond .lt 14, 3) := by decide +kernel
theorem dX7_passMorning_41 : decode cX7_passMorning 41 = .ok (.aload_n 0, 1) := by decide +kernel
theorem dX7_passMorning_42 : decode cX7_passMorning 42 = .ok (.iload_n 1, 1) := by decide +kernel
theorem dX7_passMorning_43 : decode cX7_passMorning 43 = .ok (.aload_n 0, 1) := by decide +kernel
theorem dX7_passMorning_44 : decode cX7_passMorning 44 = .ok (.iload_n 1, 1) := by decide +kernel
theorem dX7_passMorning_45 : decode cX7_passMorning 45 = .ok (.invokevirtual 133, 3) := by decide +kernel
theorem dX7_passMorning_48 : decode cX7_passMorning 48 = .ok (.iload_n 2, 1) := by decide +kernel
theorem dX7_passMorning_49 : decode cX7_passMorning 49 = .ok (.invokevirtual 171, 3) := by decide +kernel
theorem dX7_passMorning_52 : decode cX7_passMorning 52 = .ok (.iinc 1 1, 3) := by decide +kernel
theorem dX7_passMorning_55 : decode cX7_passMorning 55 = .ok (.goto (-32), 3) := by decide +kernel
theorem dX7_passMorning_58 : decode cX7_passMorning 58 = .ok (.iconst 0, 1) := by decide +kernel
theorem dX7_passMorning_59 : decode cX7_passMorning 59 = .ok (.istore_n 1, 1) := by decide +kernel
theorem dX7_passMorning_60 : decode cX7_passMorning 60 = .ok (.iload_n 1, 1) := by decide +kernel
theorem dX7_passMorning_61 : decode cX7_passMorning 61 = .ok (.aload_n 0, 1) := by decide +kernel
theorem dX7_passMorning_62 : decode cX7_passMorning 62 = .ok (.getfield 64, 3) := by decide +kernel
theorem dX7_passMorning_65 : decode cX7_passMorning 65 = .ok (.if_icmp .ge 27, 3) := by decide +kernel
theorem dX7_passMorning_68 : decode cX7_passMorning 68 = .ok (.aload_n 0, 1) := by decide +kernel
theorem dX7_passMorning_69 : decode cX7_passMorning 69 = .ok (.getfield 17, 3) := by decide +kernel
theorem dX7_passMorning_72 : decode cX7_passMorning 72 = .ok (.iload_n 1, 1) := by decide +kernel
theorem dX7_passMorning_73 : decode cX7_passMorning 73 = .ok (.aaload, 1) := by decide +kernel
theorem dX7_passMorning_74 : decode cX7_passMorning 74 = .ok (.aload_n 0, 1) := by decide +kernel
theorem dX7_passMorning_75 : decode cX7_passMorning 75 = .ok (.getfield 17, 3) := by decide +kernel
theorem dX7_passMorning_78 : decode cX7_passMorning 78 = .ok (.iload_n 1, 1) := by decide +kernel
theorem dX7_passMorning_79 : decode cX7_passMorning 79 = .ok (.aaload, 1) := by decide +kernel
theorem dX7_passMorning_80 : decode cX7_passMorning 80 = .ok (.invokevirtual 175, 3) := by decide +kernel
theorem dX7_passMorning_83 : decode cX7_passMorning 83 = .ok (.putfield 140, 3) := by decide +kernel
theorem dX7_passMorning_86 : decode cX7_passMorning 86 = .ok (.iinc 1 1, 3) := by decide +kernel
theorem dX7_passMorning_89 : decode cX7_passMorning 89 = .ok (.goto (-29), 3) := by decide +kernel
theorem dX7_passMorning_92 : decode cX7_passMorning 92 = .ok (.return_, 1) := by decide +kernel
theorem dX7_fillShop_0 : decode cX7_fillShop 0 = .ok (.aload_n 0, 1) := by decide +kernel
theorem dX7_fillShop_1 : decode cX7_fillShop 1 = .ok (.getfield 17, 3) := by decide +kernel
theorem dX7_fillShop_4 : decode cX7_fillShop 4 = .ok (.iload_n 1, 1) := by decide +kernel
theorem dX7_fillShop_5 : decode cX7_fillShop 5 = .ok (.aaload, 1) := by decide +kernel
theorem dX7_fillShop_6 : decode cX7_fillShop 6 = .ok (.astore_n 2, 1) := by decide +kernel
theorem dX7_fillShop_7 : decode cX7_fillShop 7 = .ok (.iconst 0, 1) := by decide +kernel
theorem dX7_fillShop_8 : decode cX7_fillShop 8 = .ok (.istore_n 3, 1) := by decide +kernel
theorem dX7_fillShop_9 : decode cX7_fillShop 9 = .ok (.iload_n 3, 1) := by decide +kernel
theorem dX7_fillShop_10 : decode cX7_fillShop 10 = .ok (.bipush 6, 2) := by decide +kernel
theorem dX7_fillShop_12 : decode cX7_fillShop 12 = .ok (.if_icmp .ge 50, 3) := by decide +kernel
theorem dX7_fillShop_15 : decode cX7_fillShop 15 = .ok (.aload_n 0, 1) := by decide +kernel
theorem dX7_fillShop_16 : decode cX7_fillShop 16 = .ok (.iload_n 1, 1) := by decide +kernel
theorem dX7_fillShop_17 : decode cX7_fillShop 17 = .ok (.iload_n 3, 1) := by decide +kernel
theorem dX7_fillShop_18 : decode cX7_fillShop 18 = .ok (.invokevirtual 179, 3) := by decide +kernel
theorem dX7_fillShop_21 : decode cX7_fillShop 21 = .ok (.istore 4, 2) := by decide +kernel
theorem dX7_fillShop_23 : decode cX7_fillShop 23 = .ok (.aload_n 2, 1) := by decide +kernel
theorem dX7_fillShop_24 : decode cX7_fillShop 24 = .ok (.aload_n 0, 1) := by decide +kernel
theorem dX7_fillShop_25 : decode cX7_fillShop 25 = .ok (.getfield 9, 3) := by decide +kernel
theorem dX7_fillShop_28 : decode cX7_fillShop 28 = .ok (.iload_n 3, 1) := by decide +kernel
theorem dX7_fillShop_29 : decode cX7_fillShop 29 = .ok (.iaload, 1) := by decide +kernel
theorem dX7_fillShop_30 : decode cX7_fillShop 30 = .ok (.ineg, 1) := by decide +kernel
theorem dX7_fillShop_31 : decode cX7_fillShop 31 = .ok (.iconst 0, 1) := by decide +kernel
theorem dX7_fillShop_32 : decode cX7_fillShop 32 = .ok (.iload 4, 2) := by decide +kernel
theorem dX7_fillShop_34 : decode cX7_fillShop 34 = .ok (.aload_n 2, 1) := by decide +kernel
theorem dX7_fillShop_35 : decode cX7_fillShop 35 = .ok (.getfield 126, 3) := by decide +kernel
theorem dX7_fillShop_38 : decode cX7_fillShop 38 = .ok (.iload_n 3, 1) := by decide +kernel
theorem dX7_fillShop_39 : decode cX7_fillShop 39 = .ok (.iaload, 1) := by decide +kernel
theorem dX7_fillShop_40 : decode cX7_fillShop 40 = .ok (.isub, 1) := by decide +kernel
theorem dX7_fillShop_41 : decode cX7_fillShop 41 = .ok (.invokestatic 182, 3) := by decide +kernel
theorem dX7_fillShop_44 : decode cX7_fillShop 44 = .ok (.imul, 1) := by decide +kernel
theorem dX7_fillShop_45 : decode cX7_fillShop 45 = .ok (.invokevirtual 185, 3) := by decide +kernel
theorem dX7_fillShop_48 : decode cX7_fillShop 48 = .ok (.aload_n 2, 1) := by decide +kernel
theorem dX7_fillShop_49 : decode cX7_fillShop 49 = .ok (.getfield 126, 3) := by decide +kernel
theorem dX7_fillShop_52 : decode cX7_fillShop 52 = .ok (.iload_n 3, 1) := by decide +kernel
theorem dX7_fillShop_53 : decode cX7_fillShop 53 = .ok (.iload 4, 2) := by decide +kernel
theorem dX7_fillShop_55 : decode cX7_fillShop 55 = .ok (.iastore, 1) := by decide +kernel
theorem dX7_fillShop_56 : decode cX7_fillShop 56 = .ok (.iinc 3 1, 3) := by decide +kernel
theorem dX7_fillShop_59 : decode cX7_fillShop 59 = .ok (.goto (-50), 3) := by decide +kernel
theorem dX7_fillShop_62 : decode cX7_fillShop 62 = .ok (.return_, 1) := by decide +kernel
theorem dX7_goodToBuy_0 : decode cX7_goodToBuy 0 = .ok (.aload_n 0, 1) := by decide +kernel
theorem dX7_goodToBuy_1 : decode cX7_goodToBuy 1 = .ok (.getfield 17, 3) := by decide +kernel
theorem dX7_goodToBuy_4 : decode cX7_goodToBuy 4 = .ok (.iload_n 1, 1) := by decide +kernel
theorem dX7_goodToBuy_5 : decode cX7_goodToBuy 5 = .ok (.aaload, 1) := by decide +kernel
theorem dX7_goodToBuy_6 : decode cX7_goodToBuy 6 = .ok (.astore_n 2, 1) := by decide +kernel
theorem dX7_goodToBuy_7 : decode cX7_goodToBuy 7 = .ok (.aload_n 0, 1) := by decide +kernel
theorem dX7_goodToBuy_8 : decode cX7_goodToBuy 8 = .ok (.iload_n 1, 1) := by decide +kernel
theorem dX7_goodToBuy_9 : decode cX7_goodToBuy 9 = .ok (.invokevirtual 133, 3) := by decide +kernel
theorem dX7_goodToBuy_12 : decode cX7_goodToBuy 12 = .ok (.istore_n 3, 1) := by decide +kernel
theorem dX7_goodToBuy_13 : decode cX7_goodToBuy 13 = .ok (.aload_n 2, 1) := by decide +kernel
theorem dX7_goodToBuy_14 : decode cX7_goodToBuy 14 = .ok (.getfield 114, 3) := by decide +kernel
theorem dX7_goodToBuy_17 : decode cX7_goodToBuy 17 = .ok (.iconst 5, 1) := by decide +kernel
theorem dX7_goodToBuy_18 : decode cX7_goodToBuy 18 = .ok (.if_icmp .ne 12, 3) := by decide +kernel
theorem dX7_goodToBuy_21 : decode cX7_goodToBuy 21 = .ok (.iload_n 3, 1) := by decide +kernel
theorem dX7_goodToBuy_22 : decode cX7_goodToBuy 22 = .ok (.ifCond .lt 8, 3) := by decide +kernel
theorem dX7_goodToBuy_25 : decode cX7_goodToBuy 25 = .ok (.iload_n 3, 1) := by decide +kernel
theorem dX7_goodToBuy_26 : decode cX7_goodToBuy 26 = .ok (.iload_n 1, 1) := by decide +kernel
theorem dX7_goodToBuy_27 : decode cX7_goodToBuy 27 = .ok (.if_icmp .ne 5, 3) := by decide +kernel
theorem dX7_goodToBuy_30 : decode cX7_goodToBuy 30 = .ok (.iconst (-1), 1) := by decide +kernel
theorem dX7_goodToBuy_31 : decode cX7_goodToBuy 31 = .ok (.ireturn, 1) := by decide +kernel
theorem dX7_goodToBuy_32 : decode cX7_goodToBuy 32 = .ok (.iconst 0, 1) := by decide +kernel
theorem dX7_goodToBuy_33 : decode cX7_goodToBuy 33 = .ok (.istore 4, 2) := by decide +kernel
theorem dX7_goodToBuy_35 : decode cX7_goodToBuy 35 = .ok (.iload 4, 2) := by decide +kernel
theorem dX7_goodToBuy_37 : decode cX7_goodToBuy 37 = .ok (.bipush 6, 2) := by decide +kernel
theorem dX7_goodToBuy_39 : decode cX7_goodToBuy 39 = .ok (.if_icmp .ge 45, 3) := by decide +kernel
theorem dX7_goodToBuy_42 : decode cX7_goodToBuy 42 = .ok (.aload_n 2, 1) := by decide +kernel
theorem dX7_goodToBuy_43 : decode cX7_goodToBuy 43 = .ok (.getfield 126, 3) := by decide +kernel
theorem dX7_goodToBuy_46 : decode cX7_goodToBuy 46 = .ok (.iload 4, 2) := by decide +kernel
theorem dX7_goodToBuy_48 : decode cX7_goodToBuy 48 = .ok (.iaload, 1) := by decide +kernel
theorem dX7_goodToBuy_49 : decode cX7_goodToBuy 49 = .ok (.ifCond .le 29, 3) := by decide +kernel
theorem dX7_goodToBuy_52 : decode cX7_goodToBuy 52 = .ok (.aload_n 0, 1) := by decide +kernel
theorem dX7_goodToBuy_53 : decode cX7_goodToBuy 53 = .ok (.getfield 17, 3) := by decide +kernel
theorem dX7_goodToBuy_56 : decode cX7_goodToBuy 56 = .ok (.iload_n 3, 1) := by decide +kernel
theorem dX7_goodToBuy_57 : decode cX7_goodToBuy 57 = .ok (.aaload, 1) := by decide +kernel
theorem dX7_goodToBuy_58 : decode cX7_goodToBuy 58 = .ok (.getfield 126, 3) := by decide +kernel
theorem dX7_goodToBuy_61 : decode cX7_goodToBuy 61 = .ok (.iload 4, 2) := by decide +kernel
theorem dX7_goodToBuy_63 : decode cX7_goodToBuy 63 = .ok (.iaload, 1) := by decide +kernel
theorem dX7_goodToBuy_64 : decode cX7_goodToBuy 64 = .ok (.iconst 1, 1) := by decide +kernel
theorem dX7_goodToBuy_65 : decode cX7_goodToBuy 65 = .ok (.aload_n 2, 1) := by decide +kernel
theorem dX7_goodToBuy_66 : decode cX7_goodToBuy 66 = .ok (.getfield 117, 3) := by decide +kernel
theorem dX7_goodToBuy_69 : decode cX7_goodToBuy 69 = .ok (.invokestatic 98, 3) := by decide +kernel
theorem dX7_goodToBuy_72 : decode cX7_goodToBuy 72 = .ok (.ifCond .eq 6, 3) := by decide +kernel
theorem dX7_goodToBuy_75 : decode cX7_goodToBuy 75 = .ok (.iload 4, 2) := by decide +kernel
theorem dX7_goodToBuy_77 : decode cX7_goodToBuy 77 = .ok (.ireturn, 1) := by decide +kernel
theorem dX7_goodToBuy_78 : decode cX7_goodToBuy 78 = .ok (.iinc 4 1, 3) := by decide +kernel
theorem dX7_goodToBuy_81 : decode cX7_goodToBuy 81 = .ok (.goto (-46), 3) := by decide +kernel
theorem dX7_goodToBuy_84 : decode cX7_goodToBuy 84 = .ok (.iconst (-1), 1) := by decide +kernel
theorem dX7_goodToBuy_85 : decode cX7_goodToBuy 85 = .ok (.ireturn, 1) := by decide +kernel
theorem dX7_buyOut_0 : decode cX7_buyOut 0 = .ok (.aload_n 0, 1) := by decide +kernel
theorem dX7_buyOut_1 : decode cX7_buyOut 1 = .ok (.getfield 17, 3) := by decide +kernel
theorem dX7_buyOut_4 : decode cX7_buyOut 4 = .ok (.iload_n 2, 1) := by decide +kernel
theorem dX7_buyOut_5 : decode cX7_buyOut 5 = .ok (.aaload, 1) := by decide +kernel
theorem dX7_buyOut_6 : decode cX7_buyOut 6 = .ok (.getfield 126, 3) := by decide +kernel
theorem dX7_buyOut_9 : decode cX7_buyOut 9 = .ok (.iload_n 3, 1) := by decide +kernel
theorem dX7_buyOut_10 : decode cX7_buyOut 10 = .ok (.iaload, 1) := by decide +kernel
theorem dX7_buyOut_11 : decode cX7_buyOut 11 = .ok (.istore 4, 2) := by decide +kernel
theorem dX7_buyOut_13 : decode cX7_buyOut 13 = .ok (.iload 4, 2) := by decide +kernel
theorem dX7_buyOut_15 : decode cX7_buyOut 15 = .ok (.aload_n 0, 1) := by decide +kernel
theorem dX7_buyOut_16 : decode cX7_buyOut 16 = .ok (.iload_n 2, 1) := by decide +kernel
theorem dX7_buyOut_17 : decode cX7_buyOut 17 = .ok (.iload_n 3, 1) := by decide +kernel
theorem dX7_buyOut_18 : decode cX7_buyOut 18 = .ok (.invokevirtual 188, 3) := by decide +kernel
theorem dX7_buyOut_21 : decode cX7_buyOut 21 = .ok (.imul, 1) := by decide +kernel
theorem dX7_buyOut_22 : decode cX7_buyOut 22 = .ok (.istore 5, 2) := by decide +kernel
theorem dX7_buyOut_24 : decode cX7_buyOut 24 = .ok (.aload_n 0, 1) := by decide +kernel
theorem dX7_buyOut_25 : decode cX7_buyOut 25 = .ok (.getfield 17, 3) := by decide +kernel
theorem dX7_buyOut_28 : decode cX7_buyOut 28 = .ok (.iload_n 1, 1) := by decide +kernel
theorem dX7_buyOut_29 : decode cX7_buyOut 29 = .ok (.aaload, 1) := by decide +kernel
theorem dX7_buyOut_30 : decode cX7_buyOut 30 = .ok (.iload 5, 2) := by decide +kernel
theorem dX7_buyOut_32 : decode cX7_buyOut 32 = .ok (.ineg, 1) := by decide +kernel
theorem dX7_buyOut_33 : decode cX7_buyOut 33 = .ok (.invokevirtual 185, 3) := by decide +kernel
theorem dX7_buyOut_36 : decode cX7_buyOut 36 = .ok (.aload_n 0, 1) := by decide +kernel
theorem dX7_buyOut_37 : decode cX7_buyOut 37 = .ok (.getfield 17, 3) := by decide +kernel
theorem dX7_buyOut_40 : decode cX7_buyOut 40 = .ok (.iload_n 2, 1) := by decide +kernel
theorem dX7_buyOut_41 : decode cX7_buyOut 41 = .ok (.aaload, 1) := by decide +kernel
theorem dX7_buyOut_42 : decode cX7_buyOut 42 = .ok (.iload 5, 2) := by decide +kernel
theorem dX7_buyOut_44 : decode cX7_buyOut 44 = .ok (.invokevirtual 185, 3) := by decide +kernel
theorem dX7_buyOut_47 : decode cX7_buyOut 47 = .ok (.aload_n 0, 1) := by decide +kernel
theorem dX7_buyOut_48 : decode cX7_buyOut 48 = .ok (.getfield 17, 3) := by decide +kernel
theorem dX7_buyOut_51 : decode cX7_buyOut 51 = .ok (.iload_n 2, 1) := by decide +kernel
theorem dX7_buyOut_52 : decode cX7_buyOut 52 = .ok (.aaload, 1) := by decide +kernel
theorem dX7_buyOut_53 : decode cX7_buyOut 53 = .ok (.getfield 126, 3) := by decide +kernel
theorem dX7_buyOut_56 : decode cX7_buyOut 56 = .ok (.iload_n 3, 1) := by decide +kernel
theorem dX7_buyOut_57 : decode cX7_buyOut 57 = .ok (.iconst 0, 1) := by decide +kernel
theorem dX7_buyOut_58 : decode cX7_buyOut 58 = .ok (.iastore, 1) := by decide +kernel
theorem dX7_buyOut_59 : decode cX7_buyOut 59 = .ok (.aload_n 0, 1) := by decide +kernel
theorem dX7_buyOut_60 : decode cX7_buyOut 60 = .ok (.getfield 17, 3) := by decide +kernel
theorem dX7_buyOut_63 : decode cX7_buyOut 63 = .ok (.iload_n 1, 1) := by decide +kernel
theorem dX7_buyOut_64 : decode cX7_buyOut 64 = .ok (.aaload, 1) := by decide +kernel
theorem dX7_buyOut_65 : decode cX7_buyOut 65 = .ok (.getfield 126, 3) := by decide +kernel
theorem dX7_buyOut_68 : decode cX7_buyOut 68 = .ok (.iload_n 3, 1) := by decide +kernel
theorem dX7_buyOut_69 : decode cX7_buyOut 69 = .ok (.bipush 99, 2) := by decide +kernel
theorem dX7_buyOut_71 : decode cX7_buyOut 71 = .ok (.aload_n 0, 1) := by decide +kernel
theorem dX7_buyOut_72 : decode cX7_buyOut 72 = .ok (.getfield 17, 3) := by decide +kernel
theorem dX7_buyOut_75 : decode cX7_buyOut 75 = .ok (.iload_n 1, 1) := by decide +kernel
theorem dX7_buyOut_76 : decode cX7_buyOut 76 = .ok (.aaload, 1) := by decide +kernel
theorem dX7_buyOut_77 : decode cX7_buyOut 77 = .ok (.getfield 126, 3) := by decide +kernel
theorem dX7_buyOut_80 : decode cX7_buyOut 80 = .ok (.iload_n 3, 1) := by decide +kernel
theorem dX7_buyOut_81 : decode cX7_buyOut 81 = .ok (.iaload, 1) := by decide +kernel
theorem dX7_buyOut_82 : decode cX7_buyOut 82 = .ok (.iload 4, 2) := by decide +kernel
theorem dX7_buyOut_84 : decode cX7_buyOut 84 = .ok (.iadd, 1) := by decide +kernel
theorem dX7_buyOut_85 : decode cX7_buyOut 85 = .ok (.invokestatic 147, 3) := by decide +kernel
theorem dX7_buyOut_88 : decode cX7_buyOut 88 = .ok (.iastore, 1) := by decide +kernel
theorem dX7_buyOut_89 : decode cX7_buyOut 89 = .ok (.return_, 1) := by decide +kernel
theorem dX7_placeOf_0 : decode cX7_placeOf 0 = .ok (.aload_n 0, 1) := by decide +kernel
theorem dX7_placeOf_1 : decode cX7_placeOf 1 = .ok (.getfield 64, 3) := by decide +kernel
theorem dX7_placeOf_4 : decode cX7_placeOf 4 = .ok (.ifCond .ne 7, 3) := by decide +kernel
theorem dX7_placeOf_7 : decode cX7_placeOf 7 = .ok (.iconst 0, 1) := by decide +kernel
theorem dX7_placeOf_8 : decode cX7_placeOf 8 = .ok (.goto 9, 3) := by decide +kernel
theorem dX7_placeOf_11 : decode cX7_placeOf 11 = .ok (.iload_n 2, 1) := by decide +kernel
theorem dX7_placeOf_12 : decode cX7_placeOf 12 = .ok (.aload_n 0, 1) := by decide +kernel
theorem dX7_placeOf_13 : decode cX7_placeOf 13 = .ok (.getfield 64, 3) := by decide +kernel
theorem dX7_placeOf_16 : decode cX7_placeOf 16 = .ok (.irem, 1) := by decide +kernel
theorem dX7_placeOf_17 : decode cX7_placeOf 17 = .ok (.istore_n 3, 1) := by decide +kernel
theorem dX7_placeOf_18 : decode cX7_placeOf 18 = .ok (.iload_n 1, 1) := by decide +kernel
theorem dX7_placeOf_19 : decode cX7_placeOf 19 = .ok (.ifCond .ne 7, 3) := by decide +kernel
theorem dX7_placeOf_22 : decode cX7_placeOf 22 = .ok (.iload_n 3, 1) := by decide +kernel
theorem dX7_placeOf_23 : decode cX7_placeOf 23 = .ok (.goto 11, 3) := by decide +kernel
theorem dX7_placeOf_26 : decode cX7_placeOf 26 = .ok (.aload_n 0, 1) := by decide +kernel
theorem dX7_placeOf_27 : decode cX7_placeOf 27 = .ok (.getfield 64, 3) := by decide +kernel
theorem dX7_placeOf_30 : decode cX7_placeOf 30 = .ok (.iconst 1, 1) := by decide +kernel
theorem dX7_placeOf_31 : decode cX7_placeOf 31 = .ok (.isub, 1) := by decide +kernel
theorem dX7_placeOf_32 : decode cX7_placeOf 32 = .ok (.iload_n 3, 1) := by decide +kernel
theorem dX7_placeOf_33 : decode cX7_placeOf 33 = .ok (.isub, 1) := by decide +kernel
theorem dX7_placeOf_34 : decode cX7_placeOf 34 = .ok (.ireturn, 1) := by decide +kernel
theorem dX7_goAlong_0 : decode cX7_goAlong 0 = .ok (.aload_n 0, 1) := by decide +kernel
theorem dX7_goAlong_1 : decode cX7_goAlong 1 = .ok (.getfield 23, 3) := by decide +kernel
theorem dX7_goAlong_4 : decode cX7_goAlong 4 = .ok (.iload_n 1, 1) := by decide +kernel
theorem dX7_goAlong_5 : decode cX7_goAlong 5 = .ok (.aaload, 1) := by decide +kernel
theorem dX7_goAlong_6 : decode cX7_goAlong 6 = .ok (.astore_n 2, 1) := by decide +kernel
theorem dX7_goAlong_7 : decode cX7_goAlong 7 = .ok (.aload_n 0, 1) := by decide +kernel
theorem dX7_goAlong_8 : decode cX7_goAlong 8 = .ok (.getfield 52, 3) := by decide +kernel
theorem dX7_goAlong_11 : decode cX7_goAlong 11 = .ok (.iconst 1, 1) := by decide +kernel
theorem dX7_goAlong_12 : decode cX7_goAlong 12 = .ok (.if_icmp .ne 17, 3) := by decide +kernel
theorem dX7_goAlong_15 : decode cX7_goAlong 15 = .ok (.aload_n 0, 1) := by decide +kernel
theorem dX7_goAlong_16 : decode cX7_goAlong 16 = .ok (.getfield 64, 3) := by decide +kernel
theorem dX7_goAlong_19 : decode cX7_goAlong 19 = .ok (.ifCond .le 10, 3) := by decide +kernel
theorem dX7_goAlong_22 : decode cX7_goAlong 22 = .ok (.aload_n 2, 1) := by decide +kernel
theorem dX7_goAlong_23 : decode cX7_goAlong 23 = .ok (.getfield 105, 3) := by decide +kernel
theorem dX7_goAlong_26 : decode cX7_goAlong 26 = .ok (.goto 14, 3) := by decide +kernel
theorem dX7_goAlong_29 : decode cX7_goAlong 29 = .ok (.aload_n 2, 1) := by decide +kernel
theorem dX7_goAlong_30 : decode cX7_goAlong 30 = .ok (.getfield 105, 3) := by decide +kernel
theorem dX7_goAlong_33 : decode cX7_goAlong 33 = .ok (.aload_n 0, 1) := by decide +kernel
theorem dX7_goAlong_34 : decode cX7_goAlong 34 = .ok (.getfield 64, 3) := by decide +kernel
theorem dX7_goAlong_37 : decode cX7_goAlong 37 = .ok (.invokestatic 147, 3) := by decide +kernel
theorem dX7_goAlong_40 : decode cX7_goAlong 40 = .ok (.istore_n 3, 1) := by decide +kernel
theorem dX7_goAlong_41 : decode cX7_goAlong 41 = .ok (.aload_n 2, 1) := by decide +kernel
theorem dX7_goAlong_42 : decode cX7_goAlong 42 = .ok (.getfield 111, 3) := by decide +kernel
theorem dX7_goAlong_45 : decode cX7_goAlong 45 = .ok (.istore 4, 2) := by decide +kernel
theorem dX7_goAlong_47 : decode cX7_goAlong 47 = .ok (.iconst 0, 1) := by decide +kernel
theorem dX7_goAlong_48 : decode cX7_goAlong 48 = .ok (.istore 5, 2) := by decide +kernel
theorem dX7_goAlong_50 : decode cX7_goAlong 50 = .ok (.iconst 0, 1) := by decide +kernel
theorem dX7_goAlong_51 : decode cX7_goAlong 51 = .ok (.istore 6, 2) := by decide +kernel
theorem dX7_goAlong_53 : decode cX7_goAlong 53 = .ok (.iload 6, 2) := by decide +kernel
theorem dX7_goAlong_55 : decode cX7_goAlong 55 = .ok (.iload_n 3, 1) := by decide +kernel
theorem dX7_goAlong_56 : decode cX7_goAlong 56 = .ok (.if_icmp .ge 136, 3) := by decide +kernel
theorem dX7_goAlong_59 : decode cX7_goAlong 59 = .ok (.iload 5, 2) := by decide +kernel
theorem dX7_goAlong_61 : decode cX7_goAlong 61 = .ok (.aload_n 2, 1) := by decide +kernel
theorem dX7_goAlong_62 : decode cX7_goAlong 62 = .ok (.getfield 102, 3) := by decide +kernel
theorem dX7_goAlong_65 : decode cX7_goAlong 65 = .ok (.if_icmp .eq 127, 3) := by decide +kernel
theorem dX7_goAlong_68 : decode cX7_goAlong 68 = .ok (.aload_n 0, 1) := by decide +kernel
theorem dX7_goAlong_69 : decode cX7_goAlong 69 = .ok (.aload_n 2, 1) := by decide +kernel
theorem dX7_goAlong_70 : decode cX7_goAlong 70 = .ok (.getfield 108, 3) := by decide +kernel
theorem dX7_goAlong_73 : decode cX7_goAlong 73 = .ok (.iload 6, 2) := by decide +kernel
theorem dX7_goAlong_75 : decode cX7_goAlong 75 = .ok (.invokevirtual 191, 3) := by decide +kernel
theorem dX7_goAlong_78 : decode cX7_goAlong 78 = .ok (.istore 7, 2) := by decide +kernel
theorem dX7_goAlong_80 : decode cX7_goAlong 80 = .ok (.iconst 0, 1) := by decide +kernel
theorem dX7_goAlong_81 : decode cX7_goAlong 81 = .ok (.istore 8, 2) := by decide +kernel
theorem dX7_goAlong_83 : decode cX7_goAlong 83 = .ok (.iload 8, 2) := by decide +kernel
theorem dX7_goAlong_85 : decode cX7_goAlong 85 = .ok (.bipush 6, 2) := by decide +kernel
theorem dX7_goAlong_87 : decode cX7_goAlong 87 = .ok (.if_icmp .ge 99, 3) := by decide +kernel
theorem dX7_goAlong_90 : decode cX7_goAlong 90 = .ok (.aload_n 2, 1) := by decide +kernel
theorem dX7_goAlong_91 : decode cX7_goAlong 91 = .ok (.getfield 102, 3) := by decide +kernel
theorem dX7_goAlong_94 : decode cX7_goAlong 94 = .ok (.iload 5, 2) := by decide +kernel
theorem dX7_goAlong_96 : decode cX7_goAlong 96 = .ok (.iconst (-1), 1) := by decide +kernel
theorem dX7_goAlong_97 : decode cX7_goAlong 97 = .ok (.ixor, 1) := by decide +kernel
theorem dX7_goAlong_98 : decode cX7_goAlong 98 = .ok (.iand, 1) := by decide +kernel
theorem dX7_goAlong_99 : decode cX7_goAlong 99 = .ok (.iconst 1, 1) := by decide +kernel
theorem dX7_goAlong_100 : decode cX7_goAlong 100 = .ok (.iload 8, 2) := by decide +kernel
theorem dX7_goAlong_102 : decode cX7_goAlong 102 = .ok (.ishl, 1) := by decide +kernel
theorem dX7_goAlong_103 : decode cX7_goAlong 103 = .ok (.iand, 1) := by decide +kernel
theorem dX7_goAlong_104 : decode cX7_goAlong 104 = .ok (.ifCond .eq 76, 3) := by decide +kernel
theorem dX7_goAlong_107 : decode cX7_goAlong 107 = .ok (.aload_n 0, 1) := by decide +kernel
theorem dX7_goAlong_108 : decode cX7_goAlong 108 = .ok (.iload 7, 2) := by decide +kernel
theorem dX7_goAlong_110 : decode cX7_goAlong 110 = .ok (.iload 8, 2) := by decide +kernel
theorem dX7_goAlong_112 : decode cX7_goAlong 112 = .ok (.invokevirtual 143, 3) := by decide +kernel
theorem dX7_goAlong_115 : decode cX7_goAlong 115 = .ok (.ifCond .eq 65, 3) := by decide +kernel
theorem dX7_goAlong_118 : decode cX7_goAlong 118 = .ok (.aload_n 0, 1) := by decide +kernel
theorem dX7_goAlong_119 : decode cX7_goAlong 119 = .ok (.iload 7, 2) := by decide +kernel
theorem dX7_goAlong_121 : decode cX7_goAlong 121 = .ok (.iload 8, 2) := by decide +kernel
theorem dX7_goAlong_123 : decode cX7_goAlong 123 = .ok (.invokevirtual 188, 3) := by decide +kernel
theorem dX7_goAlong_126 : decode cX7_goAlong 126 = .ok (.istore 9, 2) := by decide +kernel
theorem dX7_goAlong_128 : decode cX7_goAlong 128 = .ok (.iload 9, 2) := by decide +kernel
theorem dX7_goAlong_130 : decode cX7_goAlong 130 = .ok (.iload 4, 2) := by decide +kernel
theorem dX7_goAlong_132 : decode cX7_goAlong 132 = .ok (.if_icmp .gt 48, 3) := by decide +kernel
theorem dX7_goAlong_135 : decode cX7_goAlong 135 = .ok (.aload_n 0, 1) := by decide +kernel
theorem dX7_goAlong_136 : decode cX7_goAlong 136 = .ok (.getfield 17, 3) := by decide +kernel
theorem dX7_goAlong_139 : decode cX7_goAlong 139 = .ok (.iload 7, 2) := by decide +kernel
theorem dX7_goAlong_141 : decode cX7_goAlong 141 = .ok (.aaload, 1) := by decide +kernel
theorem dX7_goAlong_142 : decode cX7_goAlong 142 = .ok (.getfield 126, 3) := by decide +kernel
theorem dX7_goAlong_145 : decode cX7_goAlong 145 = .ok (.iload 8, 2) := by decide +kernel
theorem dX7_goAlong_147 : decode cX7_goAlong 147 = .ok (.dup2, 1) := by decide +kernel
theorem dX7_goAlong_148 : decode cX7_goAlong 148 = .ok (.iaload, 1) := by decide +kernel
theorem dX7_goAlong_149 : decode cX7_goAlong 149 = .ok (.iconst 1, 1) := by decide +kernel
theorem dX7_goAlong_150 : decode cX7_goAlong 150 = .ok (.isub, 1) := by decide +kernel
theorem dX7_goAlong_151 : decode cX7_goAlong 151 = .ok (.iastore, 1) := by decide +kernel
theorem dX7_goAlong_152 : decode cX7_goAlong 152 = .ok (.aload_n 0, 1) := by decide +kernel
theorem dX7_goAlong_153 : decode cX7_goAlong 153 = .ok (.getfield 17, 3) := by decide +kernel
theorem dX7_goAlong_156 : decode cX7_goAlong 156 = .ok (.iload 7, 2) := by decide +kernel
theorem dX7_goAlong_158 : decode cX7_goAlong 158 = .ok (.aaload, 1) := by decide +kernel
theorem dX7_goAlong_159 : decode cX7_goAlong 159 = .ok (.iload 9, 2) := by decide +kernel
theorem dX7_goAlong_161 : decode cX7_goAlong 161 = .ok (.invokevirtual 185, 3) := by decide +kernel
theorem dX7_goAlong_164 : decode cX7_goAlong 164 = .ok (.iload 4, 2) := by decide +kernel
theorem dX7_goAlong_166 : decode cX7_goAlong 166 = .ok (.iload 9, 2) := by decide +kernel
theorem dX7_goAlong_168 : decode cX7_goAlong 168 = .ok (.isub, 1) := by decide +kernel
theorem dX7_goAlong_169 : decode cX7_goAlong 169 = .ok (.istore 4, 2) := by decide +kernel
theorem dX7_goAlong_171 : decode cX7_goAlong 171 = .ok (.iload 5, 2) := by decide +kernel
theorem dX7_goAlong_173 : decode cX7_goAlong 173 = .ok (.iconst 1, 1) := by decide +kernel
theorem dX7_goAlong_174 : decode cX7_goAlong 174 = .ok (.iload 8, 2) := by decide +kernel
theorem dX7_goAlong_176 : decode cX7_goAlong 176 = .ok (.ishl, 1) := by decide +kernel
theorem dX7_goAlong_177 : decode cX7_goAlong 177 = .ok (.ior, 1) := by decide +kernel
theorem dX7_goAlong_178 : decode cX7_goAlong 178 = .ok (.istore 5, 2) := by decide +kernel
theorem dX7_goAlong_180 : decode cX7_goAlong 180 = .ok (.iinc 8 1, 3) := by decide +kernel
theorem dX7_goAlong_183 : decode cX7_goAlong 183 = .ok (.goto (-100), 3) := by decide +kernel
theorem dX7_goAlong_186 : decode cX7_goAlong 186 = .ok (.iinc 6 1, 3) := by decide +kernel
theorem dX7_goAlong_189 : decode cX7_goAlong 189 = .ok (.goto (-136), 3) := by decide +kernel
theorem dX7_goAlong_192 : decode cX7_goAlong 192 = .ok (.iload 5, 2) := by decide +kernel
theorem dX7_goAlong_194 : decode cX7_goAlong 194 = .ok (.ireturn, 1) := by decide +kernel
theorem dX7_allGoAlong_0 : decode cX7_allGoAlong 0 = .ok (.iconst 0, 1) := by decide +kernel
theorem dX7_allGoAlong_1 : decode cX7_allGoAlong 1 = .ok (.istore_n 1, 1) := by decide +kernel
theorem dX7_allGoAlong_2 : decode cX7_allGoAlong 2 = .ok (.iload_n 1, 1) := by decide +kernel
theorem dX7_allGoAlong_3 : decode cX7_allGoAlong 3 = .ok (.aload_n 0, 1) := by decide +kernel
theorem dX7_allGoAlong_4 : decode cX7_allGoAlong 4 = .ok (.getfield 71, 3) := by decide +kernel
theorem dX7_allGoAlong_7 : decode cX7_allGoAlong 7 = .ok (.if_icmp .ge 15, 3) := by decide +kernel
theorem dX7_allGoAlong_10 : decode cX7_allGoAlong 10 = .ok (.aload_n 0, 1) := by decide +kernel
theorem dX7_allGoAlong_11 : decode cX7_allGoAlong 11 = .ok (.iload_n 1, 1) := by decide +kernel
theorem dX7_allGoAlong_12 : decode cX7_allGoAlong 12 = .ok (.invokevirtual 194, 3) := by decide +kernel
theorem dX7_allGoAlong_15 : decode cX7_allGoAlong 15 = .ok (.pop, 1) := by decide +kernel
theorem dX7_allGoAlong_16 : decode cX7_allGoAlong 16 = .ok (.iinc 1 1, 3) := by decide +kernel
theorem dX7_allGoAlong_19 : decode cX7_allGoAlong 19 = .ok (.goto (-17), 3) := by decide +kernel
theorem dX7_allGoAlong_22 : decode cX7_allGoAlong 22 = .ok (.return_, 1) := by decide +kernel
theorem dX7_pass_0 : decode cX7_pass 0 = .ok (.iconst 0, 1) := by decide +kernel
theorem dX7_pass_1 : decode cX7_pass 1 = .ok (.istore_n 3, 1) := by decide +kernel
theorem dX7_pass_2 : decode cX7_pass 2 = .ok (.iload_n 3, 1) := by decide +kernel
theorem dX7_pass_3 : decode cX7_pass 3 = .ok (.iload_n 1, 1) := by decide +kernel
theorem dX7_pass_4 : decode cX7_pass 4 = .ok (.if_icmp .ge 77, 3) := by decide +kernel
theorem dX7_pass_7 : decode cX7_pass 7 = .ok (.aload_n 0, 1) := by decide +kernel
theorem dX7_pass_8 : decode cX7_pass 8 = .ok (.invokevirtual 197, 3) := by decide +kernel
theorem dX7_pass_11 : decode cX7_pass 11 = .ok (.aload_n 0, 1) := by decide +kernel
theorem dX7_pass_12 : decode cX7_pass 12 = .ok (.iconst 0, 1) := by decide +kernel
theorem dX7_pass_13 : decode cX7_pass 13 = .ok (.putfield 61, 3) := by decide +kernel
theorem dX7_pass_16 : decode cX7_pass 16 = .ok (.iconst 0, 1) := by decide +kernel
theorem dX7_pass_17 : decode cX7_pass 17 = .ok (.istore 4, 2) := by decide +kernel
theorem dX7_pass_19 : decode cX7_pass 19 = .ok (.iload 4, 2) := by decide +kernel
theorem dX7_pass_21 : decode cX7_pass 21 = .ok (.aload_n 0, 1) := by decide +kernel
theorem dX7_pass_22 : decode cX7_pass 22 = .ok (.getfield 71, 3) := by decide +kernel
theorem dX7_pass_25 : decode cX7_pass 25 = .ok (.if_icmp .ge 40, 3) := by decide +kernel
theorem dX7_pass_28 : decode cX7_pass 28 = .ok (.iload_n 2, 1) := by decide +kernel
theorem dX7_pass_29 : decode cX7_pass 29 = .ok (.ifCond .eq 12, 3) := by decide +kernel
theorem dX7_pass_32 : decode cX7_pass 32 = .ok (.aload_n 0, 1) := by decide +kernel
theorem dX7_pass_33 : decode cX7_pass 33 = .ok (.invokevirtual 200, 3) := by decide +kernel
theorem dX7_pass_36 : decode cX7_pass 36 = .ok (.iconst 4, 1) := by decide +kernel
theorem dX7_pass_37 : decode cX7_pass 37 = .ok (.irem, 1) := by decide +kernel
theorem dX7_pass_38 : decode cX7_pass 38 = .ok (.ifCond .eq 21, 3) := by decide +kernel
theorem dX7_pass_41 : decode cX7_pass 41 = .ok (.aload_n 0, 1) := by decide +kernel
theorem dX7_pass_42 : decode cX7_pass 42 = .ok (.dup, 1) := by decide +kernel
theorem dX7_pass_43 : decode cX7_pass 43 = .ok (.getfield 61, 3) := by decide +kernel
theorem dX7_pass_46 : decode cX7_pass 46 = .ok (.aload_n 0, 1) := by decide +kernel
theorem dX7_pass_47 : decode cX7_pass 47 = .ok (.iload 4, 2) := by decide +kernel
theorem dX7_pass_49 : decode cX7_pass 49 = .ok (.invokevirtual 194, 3) := by decide +kernel
theorem dX7_pass_52 : decode cX7_pass 52 = .ok (.invokestatic 203, 3) := by decide +kernel
theorem dX7_pass_55 : decode cX7_pass 55 = .ok (.iadd, 1) := by decide +kernel
theorem dX7_pass_56 : decode cX7_pass 56 = .ok (.putfield 61, 3) := by decide +kernel
theorem dX7_pass_59 : decode cX7_pass 59 = .ok (.iinc 4 1, 3) := by decide +kernel
theorem dX7_pass_62 : decode cX7_pass 62 = .ok (.goto (-43), 3) := by decide +kernel
theorem dX7_pass_65 : decode cX7_pass 65 = .ok (.aload_n 0, 1) := by decide +kernel
theorem dX7_pass_66 : decode cX7_pass 66 = .ok (.dup, 1) := by decide +kernel
theorem dX7_pass_67 : decode cX7_pass 67 = .ok (.getfield 58, 3) := by decide +kernel
theorem dX7_pass_70 : decode cX7_pass 70 = .ok (.iconst 1, 1) := by decide +kernel
theorem dX7_pass_71 : decode cX7_pass 71 = .ok (.iadd, 1) := by decide +kernel
theorem dX7_pass_72 : decode cX7_pass 72 = .ok (.putfield 58, 3) := by decide +kernel
theorem dX7_pass_75 : decode cX7_pass 75 = .ok (.iinc 3 1, 3) := by decide +kernel
theorem dX7_pass_78 : decode cX7_pass 78 = .ok (.goto (-76), 3) := by decide +kernel
theorem dX7_pass_81 : decode cX7_pass 81 = .ok (.return_, 1) := by decide +kernel
theorem dX7_draw_0 : decode cX7_draw 0 = .ok (.aload_n 0, 1) := by decide +kernel
theorem dX7_draw_1 : decode cX7_draw 1 = .ok (.aload_n 0, 1) := by decide +kernel
theorem dX7_draw_2 : decode cX7_draw 2 = .ok (.getfield 27, 3) := by decide +kernel
theorem dX7_draw_5 : decode cX7_draw 5 = .ok (.ldc 208, 2) := by decide +kernel
theorem dX7_draw_7 : decode cX7_draw 7 = .ok (.imul, 1) := by decide +kernel
theorem dX7_draw_8 : decode cX7_draw 8 = .ok (.sipush 12345, 3) := by decide +kernel
theorem dX7_draw_11 : decode cX7_draw 11 = .ok (.iadd, 1) := by decide +kernel
theorem dX7_draw_12 : decode cX7_draw 12 = .ok (.putfield 27, 3) := by decide +kernel
theorem dX7_draw_15 : decode cX7_draw 15 = .ok (.aload_n 0, 1) := by decide +kernel
theorem dX7_draw_16 : decode cX7_draw 16 = .ok (.getfield 27, 3) := by decide +kernel
theorem dX7_draw_19 : decode cX7_draw 19 = .ok (.bipush 8, 2) := by decide +kernel
theorem dX7_draw_21 : decode cX7_draw 21 = .ok (.iushr, 1) := by decide +kernel
theorem dX7_draw_22 : decode cX7_draw 22 = .ok (.ireturn, 1) := by decide +kernel
theorem dX7_turnFrom_0 : decode cX7_turnFrom 0 = .ok (.iconst 0, 1) := by decide +kernel
theorem dX7_turnFrom_1 : decode cX7_turnFrom 1 = .ok (.istore_n 3, 1) := by decide +kernel
theorem dX7_turnFrom_2 : decode cX7_turnFrom 2 = .ok (.iload_n 3, 1) := by decide +kernel
theorem dX7_turnFrom_3 : decode cX7_turnFrom 3 = .ok (.aload_n 0, 1) := by decide +kernel
theorem dX7_turnFrom_4 : decode cX7_turnFrom 4 = .ok (.getfield 64, 3) := by decide +kernel
theorem dX7_turnFrom_7 : decode cX7_turnFrom 7 = .ok (.if_icmp .ge 31, 3) := by decide +kernel
theorem dX7_turnFrom_10 : decode cX7_turnFrom 10 = .ok (.aload_n 0, 1) := by decide +kernel
theorem dX7_turnFrom_11 : decode cX7_turnFrom 11 = .ok (.getfield 17, 3) := by decide +kernel
theorem dX7_turnFrom_14 : decode cX7_turnFrom 14 = .ok (.iload_n 3, 1) := by decide +kernel
theorem dX7_turnFrom_15 : decode cX7_turnFrom 15 = .ok (.iload_n 2, 1) := by decide +kernel
theorem dX7_turnFrom_16 : decode cX7_turnFrom 16 = .ok (.iadd, 1) := by decide +kernel
theorem dX7_turnFrom_17 : decode cX7_turnFrom 17 = .ok (.aload_n 0, 1) := by decide +kernel
theorem dX7_turnFrom_18 : decode cX7_turnFrom 18 = .ok (.getfield 64, 3) := by decide +kernel
theorem dX7_turnFrom_21 : decode cX7_turnFrom 21 = .ok (.irem, 1) := by decide +kernel
theorem dX7_turnFrom_22 : decode cX7_turnFrom 22 = .ok (.aaload, 1) := by decide +kernel
theorem dX7_turnFrom_23 : decode cX7_turnFrom 23 = .ok (.aload_n 1, 1) := by decide +kernel
theorem dX7_turnFrom_24 : decode cX7_turnFrom 24 = .ok (.getfield 17, 3) := by decide +kernel
theorem dX7_turnFrom_27 : decode cX7_turnFrom 27 = .ok (.iload_n 3, 1) := by decide +kernel
theorem dX7_turnFrom_28 : decode cX7_turnFrom 28 = .ok (.aaload, 1) := by decide +kernel
theorem dX7_turnFrom_29 : decode cX7_turnFrom 29 = .ok (.invokevirtual 67, 3) := by decide +kernel
theorem dX7_turnFrom_32 : decode cX7_turnFrom 32 = .ok (.iinc 3 1, 3) := by decide +kernel
theorem dX7_turnFrom_35 : decode cX7_turnFrom 35 = .ok (.goto (-33), 3) := by decide +kernel
theorem dX7_turnFrom_38 : decode cX7_turnFrom 38 = .ok (.return_, 1) := by decide +kernel
theorem dX7_joinNext_0 : decode cX7_joinNext 0 = .ok (.aload_n 0, 1) := by decide +kernel
theorem dX7_joinNext_1 : decode cX7_joinNext 1 = .ok (.getfield 17, 3) := by decide +kernel
theorem dX7_joinNext_4 : decode cX7_joinNext 4 = .ok (.iload_n 1, 1) := by decide +kernel
theorem dX7_joinNext_5 : decode cX7_joinNext 5 = .ok (.aaload, 1) := by decide +kernel
theorem dX7_joinNext_6 : decode cX7_joinNext 6 = .ok (.aload_n 0, 1) := by decide +kernel
theorem dX7_joinNext_7 : decode cX7_joinNext 7 = .ok (.getfield 17, 3) := by decide +kernel
theorem dX7_joinNext_10 : decode cX7_joinNext 10 = .ok (.iload_n 1, 1) := by decide +kernel
theorem dX7_joinNext_11 : decode cX7_joinNext 11 = .ok (.iconst 1, 1) := by decide +kernel
theorem dX7_joinNext_12 : decode cX7_joinNext 12 = .ok (.iadd, 1) := by decide +kernel
theorem dX7_joinNext_13 : decode cX7_joinNext 13 = .ok (.aaload, 1) := by decide +kernel
theorem dX7_joinNext_14 : decode cX7_joinNext 14 = .ok (.invokevirtual 209, 3) := by decide +kernel
theorem dX7_joinNext_17 : decode cX7_joinNext 17 = .ok (.iload_n 1, 1) := by decide +kernel
theorem dX7_joinNext_18 : decode cX7_joinNext 18 = .ok (.iconst 1, 1) := by decide +kernel
theorem dX7_joinNext_19 : decode cX7_joinNext 19 = .ok (.iadd, 1) := by decide +kernel
theorem dX7_joinNext_20 : decode cX7_joinNext 20 = .ok (.istore_n 2, 1) := by decide +kernel
theorem dX7_joinNext_21 : decode cX7_joinNext 21 = .ok (.iload_n 2, 1) := by decide +kernel
theorem dX7_joinNext_22 : decode cX7_joinNext 22 = .ok (.aload_n 0, 1) := by decide +kernel
theorem dX7_joinNext_23 : decode cX7_joinNext 23 = .ok (.getfield 64, 3) := by decide +kernel
theorem dX7_joinNext_26 : decode cX7_joinNext 26 = .ok (.iconst 1, 1) := by decide +kernel
theorem dX7_joinNext_27 : decode cX7_joinNext 27 = .ok (.isub, 1) := by decide +kernel
theorem dX7_joinNext_28 : decode cX7_joinNext 28 = .ok (.if_icmp .ge 26, 3) := by decide +kernel
theorem dX7_joinNext_31 : decode cX7_joinNext 31 = .ok (.aload_n 0, 1) := by decide +kernel
theorem dX7_joinNext_32 : decode cX7_joinNext 32 = .ok (.getfield 17, 3) := by decide +kernel
theorem dX7_joinNext_35 : decode cX7_joinNext 35 = .ok (.iload_n 2, 1) := by decide +kernel
theorem dX7_joinNext_36 : decode cX7_joinNext 36 = .ok (.aaload, 1) := by decide +kernel
theorem dX7_joinNext_37 : decode cX7_joinNext 37 = .ok (.aload_n 0, 1) := by decide +kernel
theorem dX7_joinNext_38 : decode cX7_joinNext 38 = .ok (.getfield 17, 3) := by decide +kernel
theorem dX7_joinNext_41 : decode cX7_joinNext 41 = .ok (.iload_n 2, 1) := by decide +kernel
theorem dX7_joinNext_42 : decode cX7_joinNext 42 = .ok (.iconst 1, 1) := by decide +kernel
theorem dX7_joinNext_43 : decode cX7_joinNext 43 = .ok (.iadd, 1) := by decide +kernel
theorem dX7_joinNext_44 : decode cX7_joinNext 44 = .ok (.aaload, 1) := by decide +kernel
theorem dX7_joinNext_45 : decode cX7_joinNext 45 = .ok (.invokevirtual 67, 3) := by decide +kernel
theorem dX7_joinNext_48 : decode cX7_joinNext 48 = .ok (.iinc 2 1, 3) := by decide +kernel
theorem dX7_joinNext_51 : decode cX7_joinNext 51 = .ok (.goto (-30), 3) := by decide +kernel
theorem dX7_joinNext_54 : decode cX7_joinNext 54 = .ok (.aload_n 0, 1) := by decide +kernel
theorem dX7_joinNext_55 : decode cX7_joinNext 55 = .ok (.dup, 1) := by decide +kernel
theorem dX7_joinNext_56 : decode cX7_joinNext 56 = .ok (.getfield 64, 3) := by decide +kernel
theorem dX7_joinNext_59 : decode cX7_joinNext 59 = .ok (.iconst 1, 1) := by decide +kernel
theorem dX7_joinNext_60 : decode cX7_joinNext 60 = .ok (.isub, 1) := by decide +kernel
theorem dX7_joinNext_61 : decode cX7_joinNext 61 = .ok (.putfield 64, 3) := by decide +kernel
theorem dX7_joinNext_64 : decode cX7_joinNext 64 = .ok (.return_, 1) := by decide +kernel
theorem dX7_things_0 : decode cX7_things 0 = .ok (.iconst 0, 1) := by decide +kernel
theorem dX7_things_1 : decode cX7_things 1 = .ok (.istore_n 1, 1) := by decide +kernel
theorem dX7_things_2 : decode cX7_things 2 = .ok (.iconst 0, 1) := by decide +kernel
theorem dX7_things_3 : decode cX7_things 3 = .ok (.istore_n 2, 1) := by decide +kernel
theorem dX7_things_4 : decode cX7_things 4 = .ok (.iload_n 2, 1) := by decide +kernel
theorem dX7_things_5 : decode cX7_things 5 = .ok (.aload_n 0, 1) := by decide +kernel
theorem dX7_things_6 : decode cX7_things 6 = .ok (.getfield 64, 3) := by decide +kernel
theorem dX7_things_9 : decode cX7_things 9 = .ok (.if_icmp .ge 21, 3) := by decide +kernel
theorem dX7_things_12 : decode cX7_things 12 = .ok (.iload_n 1, 1) := by decide +kernel
theorem dX7_things_13 : decode cX7_things 13 = .ok (.aload_n 0, 1) := by decide +kernel
theorem dX7_things_14 : decode cX7_things 14 = .ok (.getfield 17, 3) := by decide +kernel
theorem dX7_things_17 : decode cX7_things 17 = .ok (.iload_n 2, 1) := by decide +kernel
theorem dX7_things_18 : decode cX7_things 18 = .ok (.aaload, 1) := by decide +kernel
theorem dX7_things_19 : decode cX7_things 19 = .ok (.invokevirtual 212, 3) := by decide +kernel
theorem dX7_things_22 : decode cX7_things 22 = .ok (.iadd, 1) := by decide +kernel
theorem dX7_things_23 : decode cX7_things 23 = .ok (.istore_n 1, 1) := by decide +kernel
theorem dX7_things_24 : decode cX7_things 24 = .ok (.iinc 2 1, 3) := by decide +kernel
theorem dX7_things_27 : decode cX7_things 27 = .ok (.goto (-23), 3) := by decide +kernel
theorem dX7_things_30 : decode cX7_things 30 = .ok (.iload_n 1, 1) := by decide +kernel
theorem dX7_things_31 : decode cX7_things 31 = .ok (.ireturn, 1) := by decide +kernel
theorem dX7_purses_0 : decode cX7_purses 0 = .ok (.iconst 0, 1) := by decide +kernel
theorem dX7_purses_1 : decode cX7_purses 1 = .ok (.istore_n 1, 1) := by decide +kernel
theorem dX7_purses_2 : decode cX7_purses 2 = .ok (.iconst 0, 1) := by decide +kernel
theorem dX7_purses_3 : decode cX7_purses 3 = .ok (.istore_n 2, 1) := by decide +kernel
theorem dX7_purses_4 : decode cX7_purses 4 = .ok (.iload_n 2, 1) := by decide +kernel
theorem dX7_purses_5 : decode cX7_purses 5 = .ok (.aload_n 0, 1) := by decide +kernel
theorem dX7_purses_6 : decode cX7_purses 6 = .ok (.getfield 64, 3) := by decide +kernel
theorem dX7_purses_9 : decode cX7_purses 9 = .ok (.if_icmp .ge 21, 3) := by decide +kernel
theorem dX7_purses_12 : decode cX7_purses 12 = .ok (.iload_n 1, 1) := by decide +kernel
theorem dX7_purses_13 : decode cX7_purses 13 = .ok (.aload_n 0, 1) := by decide +kernel
theorem dX7_purses_14 : decode cX7_purses 14 = .ok (.getfield 17, 3) := by decide +kernel
theorem dX7_purses_17 : decode cX7_purses 17 = .ok (.iload_n 2, 1) := by decide +kernel
theorem dX7_purses_18 : decode cX7_purses 18 = .ok (.aaload, 1) := by decide +kernel
theorem dX7_purses_19 : decode cX7_purses 19 = .ok (.getfield 120, 3) := by decide +kernel
theorem dX7_purses_22 : decode cX7_purses 22 = .ok (.iadd, 1) := by decide +kernel
theorem dX7_purses_23 : decode cX7_purses 23 = .ok (.istore_n 1, 1) := by decide +kernel
theorem dX7_purses_24 : decode cX7_purses 24 = .ok (.iinc 2 1, 3) := by decide +kernel
theorem dX7_purses_27 : decode cX7_purses 27 = .ok (.goto (-23), 3) := by decide +kernel
theorem dX7_purses_30 : decode cX7_purses 30 = .ok (.iload_n 1, 1) := by decide +kernel
theorem dX7_purses_31 : decode cX7_purses 31 = .ok (.ireturn, 1) := by decide +kernel
theorem dX8_init_0 : decode cX8_init 0 = .ok (.aload_n 0, 1) := by decide +kernel
theorem dX8_init_1 : decode cX8_init 1 = .ok (.invokespecial 1, 3) := by decide +kernel
theorem dX8_init_4 : decode cX8_init 4 = .ok (.aload_n 0, 1) := by decide +kernel
theorem dX8_init_5 : decode cX8_init 5 = .ok (.new 7, 3) := by decide +kernel
theorem dX8_init_8 : decode cX8_init 8 = .ok (.dup, 1) := by decide +kernel
theorem dX8_init_9 : decode cX8_init 9 = .ok (.invokespecial 9, 3) := by decide +kernel
theorem dX8_init_12 : decode cX8_init 12 = .ok (.putfield 10, 3) := by decide +kernel
theorem dX8_init_15 : decode cX8_init 15 = .ok (.aload_n 0, 1) := by decide +kernel
theorem dX8_init_16 : decode cX8_init 16 = .ok (.new 7, 3) := by decide +kernel
theorem dX8_init_19 : decode cX8_init 19 = .ok (.dup, 1) := by decide +kernel
theorem dX8_init_20 : decode cX8_init 20 = .ok (.invokespecial 9, 3) := by decide +kernel
theorem dX8_init_23 : decode cX8_init 23 = .ok (.putfield 16, 3) := by decide +kernel
theorem dX8_init_26 : decode cX8_init 26 = .ok (.aload_n 0, 1) := by decide +kernel
theorem dX8_init_27 : decode cX8_init 27 = .ok (.new 7, 3) := by decide +kernel
theorem dX8_init_30 : decode cX8_init 30 = .ok (.dup, 1) := by decide +kernel
theorem dX8_init_31 : decode cX8_init 31 = .ok (.invokespecial 9, 3) := by decide +kernel
theorem dX8_init_34 : decode cX8_init 34 = .ok (.putfield 19, 3) := by decide +kernel
theorem dX8_init_37 : decode cX8_init 37 = .ok (.aload_n 0, 1) := by decide +kernel
theorem dX8_init_38 : decode cX8_init 38 = .ok (.iconst 4, 1) := by decide +kernel
theorem dX8_init_39 : decode cX8_init 39 = .ok (.anewarray 22, 3) := by decide +kernel
theorem dX8_init_42 : decode cX8_init 42 = .ok (.putfield 24, 3) := by decide +kernel
theorem dX8_init_45 : decode cX8_init 45 = .ok (.aload_n 0, 1) := by decide +kernel
theorem dX8_init_46 : decode cX8_init 46 = .ok (.new 28, 3) := by decide +kernel
theorem dX8_init_49 : decode cX8_init 49 = .ok (.dup, 1) := by decide +kernel
theorem dX8_init_50 : decode cX8_init 50 = .ok (.invokespecial 30, 3) := by decide +kernel
theorem dX8_init_53 : decode cX8_init 53 = .ok (.putfield 31, 3) := by decide +kernel
theorem dX8_init_56 : decode cX8_init 56 = .ok (.aload_n 0, 1) := by decide +kernel
theorem dX8_init_57 : decode cX8_init 57 = .ok (.new 35, 3) := by decide +kernel
theorem dX8_init_60 : decode cX8_init 60 = .ok (.dup, 1) := by decide +kernel
theorem dX8_init_61 : decode cX8_init 61 = .ok (.invokespecial 37, 3) := by decide +kernel
theorem dX8_init_64 : decode cX8_init 64 = .ok (.putfield 38, 3) := by decide +kernel
theorem dX8_init_67 : decode cX8_init 67 = .ok (.aload_n 0, 1) := by decide +kernel
theorem dX8_init_68 : decode cX8_init 68 = .ok (.new 42, 3) := by decide +kernel
theorem dX8_init_71 : decode cX8_init 71 = .ok (.dup, 1) := by decide +kernel
theorem dX8_init_72 : decode cX8_init 72 = .ok (.invokespecial 44, 3) := by decide +kernel
theorem dX8_init_75 : decode cX8_init 75 = .ok (.putfield 45, 3) := by decide +kernel
theorem dX8_init_78 : decode cX8_init 78 = .ok (.aload_n 0, 1) := by decide +kernel
theorem dX8_init_79 : decode cX8_init 79 = .ok (.bipush 7, 2) := by decide +kernel
theorem dX8_init_81 : decode cX8_init 81 = .ok (.newarray .int, 2) := by decide +kernel
theorem dX8_init_83 : decode cX8_init 83 = .ok (.putfield 49, 3) := by decide +kernel
theorem dX8_init_86 : decode cX8_init 86 = .ok (.iconst 0, 1) := by decide +kernel
theorem dX8_init_87 : decode cX8_init 87 = .ok (.istore_n 1, 1) := by decide +kernel
theorem dX8_init_88 : decode cX8_init 88 = .ok (.iload_n 1, 1) := by decide +kernel
theorem dX8_init_89 : decode cX8_init 89 = .ok (.iconst 4, 1) := by decide +kernel
theorem dX8_init_90 : decode cX8_init 90 = .ok (.if_icmp .ge 22, 3) := by decide +kernel
theorem dX8_init_93 : decode cX8_init 93 = .ok (.aload_n 0, 1) := by decide +kernel
theorem dX8_init_94 : decode cX8_init 94 = .ok (.getfield 24, 3) := by decide +kernel
theorem dX8_init_97 : decode cX8_init 97 = .ok (.iload_n 1, 1) := by decide +kernel
theorem dX8_init_98 : decode cX8_init 98 = .ok (.new 22, 3) := by decide +kernel
theorem dX8_init_101 : decode cX8_init 101 = .ok (.dup, 1) := by decide +kernel
theorem dX8_init_102 : decode cX8_init 102 = .ok (.invokespecial 53, 3) := by decide +kernel
theorem dX8_init_105 : decode cX8_init 105 = .ok (.aastore, 1) := by decide +kernel
theorem dX8_init_106 : decode cX8_init 106 = .ok (.iinc 1 1, 3) := by decide +kernel
theorem dX8_init_109 : decode cX8_init 109 = .ok (.goto (-21), 3) := by decide +kernel
theorem dX8_init_112 : decode cX8_init 112 = .ok (.return_, 1) := by decide +kernel
theorem dX8_cost_0 : decode cX8_cost 0 = .ok (.iload_n 1, 1) := by decide +kernel
theorem dX8_cost_1 : decode cX8_cost 1 = .ok (.invokestatic 54, 3) := by decide +kernel
theorem dX8_cost_4 : decode cX8_cost 4 = .ok (.ifCond .eq 13, 3) := by decide +kernel
theorem dX8_cost_7 : decode cX8_cost 7 = .ok (.iload_n 2, 1) := by decide +kernel
theorem dX8_cost_8 : decode cX8_cost 8 = .ok (.iconst 0, 1) := by decide +kernel
theorem dX8_cost_9 : decode cX8_cost 9 = .ok (.bipush 99, 2) := by decide +kernel
theorem dX8_cost_11 : decode cX8_cost 11 = .ok (.invokestatic 58, 3) := by decide +kernel
theorem dX8_cost_14 : decode cX8_cost 14 = .ok (.ifCond .ne 9, 3) := by decide +kernel
theorem dX8_cost_17 : decode cX8_cost 17 = .ok (.aload_n 0, 1) := by decide +kernel
theorem dX8_cost_18 : decode cX8_cost 18 = .ok (.iconst 1, 1) := by decide +kernel
theorem dX8_cost_19 : decode cX8_cost 19 = .ok (.invokevirtual 62, 3) := by decide +kernel
theorem dX8_cost_22 : decode cX8_cost 22 = .ok (.ireturn, 1) := by decide +kernel
theorem dX8_cost_23 : decode cX8_cost 23 = .ok (.aload_n 0, 1) := by decide +kernel
theorem dX8_cost_24 : decode cX8_cost 24 = .ok (.getfield 10, 3) := by decide +kernel
theorem dX8_cost_27 : decode cX8_cost 27 = .ok (.getfield 66, 3) := by decide +kernel
theorem dX8_cost_30 : decode cX8_cost 30 = .ok (.iload_n 1, 1) := by decide +kernel
theorem dX8_cost_31 : decode cX8_cost 31 = .ok (.iaload, 1) := by decide +kernel
theorem dX8_cost_32 : decode cX8_cost 32 = .ok (.istore_n 3, 1) := by decide +kernel
theorem dX8_cost_33 : decode cX8_cost 33 = .ok (.aload_n 0, 1) := by decide +kernel
theorem dX8_cost_34 : decode cX8_cost 34 = .ok (.getfield 10, 3) := by decide +kernel
theorem dX8_cost_37 : decode cX8_cost 37 = .ok (.getfield 66, 3) := by decide +kernel
theorem dX8_cost_40 : decode cX8_cost 40 = .ok (.iload_n 1, 1) := by decide +kernel
theorem dX8_cost_41 : decode cX8_cost 41 = .ok (.iload_n 2, 1) := by decide +kernel
theorem dX8_cost_42 : decode cX8_cost 42 = .ok (.iastore, 1) := by decide +kernel
theorem dX8_cost_43 : decode cX8_cost 43 = .ok (.iload_n 3, 1) := by decide +kernel
theorem dX8_cost_44 : decode cX8_cost 44 = .ok (.ireturn, 1) := by decide +kernel
theorem dX8_rule_0 : decode cX8_rule 0 = .ok (.iload_n 1, 1) := by decide +kernel
theorem dX8_rule_1 : decode cX8_rule 1 = .ok (.ifCond .ne 30, 3) := by decide +kernel
theorem dX8_rule_4 : decode cX8_rule 4 = .ok (.iload_n 2, 1) := by decide +kernel
theorem dX8_rule_5 : decode cX8_rule 5 = .ok (.iconst 0, 1) := by decide +kernel
theorem dX8_rule_6 : decode cX8_rule 6 = .ok (.iconst 1, 1) := by decide +kernel
theorem dX8_rule_7 : decode cX8_rule 7 = .ok (.invokestatic 58, 3) := by decide +kernel
theorem dX8_rule_10 : decode cX8_rule 10 = .ok (.ifCond .eq 21, 3) := by decide +kernel
theorem dX8_rule_13 : decode cX8_rule 13 = .ok (.aload_n 0, 1) := by decide +kernel
theorem dX8_rule_14 : decode cX8_rule 14 = .ok (.getfield 10, 3) := by decide +kernel
theorem dX8_rule_17 : decode cX8_rule 17 = .ok (.getfield 69, 3) := by decide +kernel
theorem dX8_rule_20 : decode cX8_rule 20 = .ok (.istore_n 3, 1) := by decide +kernel
theorem dX8_rule_21 : decode cX8_rule 21 = .ok (.aload_n 0, 1) := by decide +kernel
theorem dX8_rule_22 : decode cX8_rule 22 = .ok (.getfield 10, 3) := by decide +kernel
theorem dX8_rule_25 : decode cX8_rule 25 = .ok (.iload_n 2, 1) := by decide +kernel
theorem dX8_rule_26 : decode cX8_rule 26 = .ok (.putfield 69, 3) := by decide +kernel
theorem dX8_rule_29 : decode cX8_rule 29 = .ok (.iload_n 3, 1) := by decide +kernel
theorem dX8_rule_30 : decode cX8_rule 30 = .ok (.ireturn, 1) := by decide +kernel
theorem dX8_rule_31 : decode cX8_rule 31 = .ok (.iload_n 1, 1) := by decide +kernel
theorem dX8_rule_32 : decode cX8_rule 32 = .ok (.iconst 1, 1) := by decide +kernel
theorem dX8_rule_33 : decode cX8_rule 33 = .ok (.if_icmp .ne 30, 3) := by decide +kernel
theorem dX8_rule_36 : decode cX8_rule 36 = .ok (.iload_n 2, 1) := by decide +kernel
theorem dX8_rule_37 : decode cX8_rule 37 = .ok (.iconst 0, 1) := by decide +kernel
theorem dX8_rule_38 : decode cX8_rule 38 = .ok (.iconst 2, 1) := by decide +kernel
theorem dX8_rule_39 : decode cX8_rule 39 = .ok (.invokestatic 58, 3) := by decide +kernel
theorem dX8_rule_42 : decode cX8_rule 42 = .ok (.ifCond .eq 21, 3) := by decide +kernel
theorem dX8_rule_45 : decode cX8_rule 45 = .ok (.aload_n 0, 1) := by decide +kernel
theorem dX8_rule_46 : decode cX8_rule 46 = .ok (.getfield 10, 3) := by decide +kernel
theorem dX8_rule_49 : decode cX8_rule 49 = .ok (.getfield 73, 3) := by decide +kernel
theorem dX8_rule_52 : decode cX8_rule 52 = .ok (.istore_n 3, 1) := by decide +kernel
theorem dX8_rule_53 : decode cX8_rule 53 = .ok (.aload_n 0, 1) := by decide +kernel
theorem dX8_rule_54 : decode cX8_rule 54 = .ok (.getfield 10, 3) := by decide +kernel
theorem dX8_rule_57 : decode cX8_rule 57 = .ok (.iload_n 2, 1) := by decide +kernel
theorem dX8_rule_58 : decode cX8_rule 58 = .ok (.putfield 73, 3) := by decide +kernel
theorem dX8_rule_61 : decode cX8_rule 61 = .ok (.iload_n 3, 1) := by decide +kernel
theorem dX8_rule_62 : decode cX8_rule 62 = .ok (.ireturn, 1) := by decide +kernel
theorem dX8_rule_63 : decode cX8_rule 63 = .ok (.aload_n 0, 1) := by decide +kernel
theorem dX8_rule_64 : decode cX8_rule 64 = .ok (.iconst 1, 1) := by decide +kernel
theorem dX8_rule_65 : decode cX8_rule 65 = .ok (.invokevirtual 62, 3) := by decide +kernel
theorem dX8_rule_68 : decode cX8_rule 68 = .ok (.ireturn, 1) := by decide +kernel
theorem dX8_shop_0 : decode cX8_shop 0 = .ok (.iload_n 1, 1) := by decide +kernel
theorem dX8_shop_1 : decode cX8_shop 1 = .ok (.iconst 0, 1) := by decide +kernel
theorem dX8_shop_2 : decode cX8_shop 2 = .ok (.bipush 69, 2) := by decide +kernel
theorem dX8_shop_4 : decode cX8_shop 4 = .ok (.invokestatic 58, 3) := by decide +kernel
theorem dX8_shop_7 : decode cX8_shop 7 = .ok (.ifCond .ne 9, 3) := by decide +kernel
theorem dX8_shop_10 : decode cX8_shop 10 = .ok (.aload_n 0, 1) := by decide +kernel
theorem dX8_shop_11 : decode cX8_shop 11 = .ok (.iconst 1, 1) := by decide +kernel
theorem dX8_shop_12 : decode cX8_shop 12 = .ok (.invokevirtual 62, 3) := by decide +kernel
theorem dX8_shop_15 : decode cX8_shop 15 = .ok (.ireturn, 1) := by decide +kernel
theorem dX8_shop_16 : decode cX8_shop 16 = .ok (.aload_n 0, 1) := by decide +kernel
theorem dX8_shop_17 : decode cX8_shop 17 = .ok (.getfield 10, 3) := by decide +kernel
theorem dX8_shop_20 : decode cX8_shop 20 = .ok (.getfield 76, 3) := by decide +kernel
theorem dX8_shop_23 : decode cX8_shop 23 = .ok (.bipush 6, 2) := by decide +kernel
theorem dX8_shop_25 : decode cX8_shop 25 = .ok (.if_icmp .lt 9, 3) := by decide +kernel
theorem dX8_shop_28 : decode cX8_shop 28 = .ok (.aload_n 0, 1) := by decide +kernel
theorem dX8_shop_29 : decode cX8_shop 29 = .ok (.iconst 4, 1) := by decide +kernel
theorem dX8_shop_30 : decode cX8_shop 30 = .ok (.invokevirtual 62, 3) := by decide +kernel
theorem dX8_shop_33 : decode cX8_shop 33 = .ok (.ireturn, 1) := by decide +kernel
theorem dX8_shop_34 : decode cX8_shop 34 = .ok (.aload_n 0, 1) := by decide +kernel
theorem dX8_shop_35 : decode cX8_shop 35 = .ok (.getfield 10, 3) := by decide +kernel
theorem dX8_shop_38 : decode cX8_shop 38 = .ok (.getfield 79, 3) := by decide +kernel
theorem dX8_shop_41 : decode cX8_shop 41 = .ok (.aload_n 0, 1) := by decide +kernel
theorem dX8_shop_42 : decode cX8_shop 42 = .ok (.getfield 10, 3) := by decide +kernel
theorem dX8_shop_45 : decode cX8_shop 45 = .ok (.getfield 76, 3) := by decide +kernel
theorem dX8_shop_48 : decode cX8_shop 48 = .ok (.aaload, 1) := by decide +kernel
theorem dX8_shop_49 : decode cX8_shop 49 = .ok (.iload_n 1, 1) := by decide +kernel
theorem dX8_shop_50 : decode cX8_shop 50 = .ok (.bipush 10, 2) := by decide +kernel
theorem dX8_shop_52 : decode cX8_shop 52 = .ok (.idiv, 1) := by decide +kernel
theorem dX8_shop_53 : decode cX8_shop 53 = .ok (.iload_n 1, 1) := by decide +kernel
theorem dX8_shop_54 : decode cX8_shop 54 = .ok (.bipush 10, 2) := by decide +kernel
theorem dX8_shop_56 : decode cX8_shop 56 = .ok (.irem, 1) := by decide +kernel
theorem dX8_shop_57 : decode cX8_shop 57 = .ok (.invokevirtual 83, 3) := by decide +kernel
theorem dX8_shop_60 : decode cX8_shop 60 = .ok (.aload_n 0, 1) := by decide +kernel
theorem dX8_shop_61 : decode cX8_shop 61 = .ok (.getfield 10, 3) := by decide +kernel
theorem dX8_shop_64 : decode cX8_shop 64 = .ok (.dup, 1) := by decide +kernel
theorem dX8_shop_65 : decode cX8_shop 65 = .ok (.getfield 76, 3) := by decide +kernel
theorem dX8_shop_68 : decode cX8_shop 68 = .ok (.iconst 1, 1) := by decide +kernel
theorem dX8_shop_69 : decode cX8_shop 69 = .ok (.iadd, 1) := by decide +kernel
theorem dX8_shop_70 : decode cX8_shop 70 = .ok (.putfield 76, 3) := by decide +kernel
theorem dX8_shop_73 : decode cX8_shop 73 = .ok (.aload_n 0, 1) := by decide +kernel
theorem dX8_shop_74 : decode cX8_shop 74 = .ok (.getfield 10, 3) := by decide +kernel
theorem dX8_shop_77 : decode cX8_shop 77 = .ok (.getfield 76, 3) := by decide +kernel
theorem dX8_shop_80 : decode cX8_shop 80 = .ok (.iconst 1, 1) := by decide +kernel
theorem dX8_shop_81 : decode cX8_shop 81 = .ok (.isub, 1) := by decide +kernel
theorem dX8_shop_82 : decode cX8_shop 82 = .ok (.ireturn, 1) := by decide +kernel
theorem dX8_shopIs_0 : decode cX8_shopIs 0 = .ok (.aload_n 0, 1) := by decide +kernel
theorem dX8_shopIs_1 : decode cX8_shopIs 1 = .ok (.getfield 10, 3) := by decide +kernel
theorem dX8_shopIs_4 : decode cX8_shopIs 4 = .ok (.iload_n 1, 1) := by decide +kernel
theorem dX8_shopIs_5 : decode cX8_shopIs 5 = .ok (.invokevirtual 89, 3) := by decide +kernel
theorem dX8_shopIs_8 : decode cX8_shopIs 8 = .ok (.ifCond .eq 13, 3) := by decide +kernel
theorem dX8_shopIs_11 : decode cX8_shopIs 11 = .ok (.iload_n 2, 1) := by decide +kernel
theorem dX8_shopIs_12 : decode cX8_shopIs 12 = .ok (.iconst 0, 1) := by decide +kernel
theorem dX8_shopIs_13 : decode cX8_shopIs 13 = .ok (.bipush 15, 2) := by decide +kernel
theorem dX8_shopIs_15 : decode cX8_shopIs 15 = .ok (.invokestatic 58, 3) := by decide +kernel
theorem dX8_shopIs_18 : decode cX8_shopIs 18 = .ok (.ifCond .ne 9, 3) := by decide +kernel
theorem dX8_shopIs_21 : decode cX8_shopIs 21 = .ok (.aload_n 0, 1) := by decide +kernel
theorem dX8_shopIs_22 : decode cX8_shopIs 22 = .ok (.iconst 1, 1) := by decide +kernel
theorem dX8_shopIs_23 : decode cX8_shopIs 23 = .ok (.invokevirtual 62, 3) := by decide +kernel
theorem dX8_shopIs_26 : decode cX8_shopIs 26 = .ok (.ireturn, 1) := by decide +kernel
theorem dX8_shopIs_27 : decode cX8_shopIs 27 = .ok (.aload_n 0, 1) := by decide +kernel
theorem dX8_shopIs_28 : decode cX8_shopIs 28 = .ok (.getfield 10, 3) := by decide +kernel
theorem dX8_shopIs_31 : decode cX8_shopIs 31 = .ok (.iload_n 1, 1) := by decide +kernel
theorem dX8_shopIs_32 : decode cX8_shopIs 32 = .ok (.iload_n 2, 1) := by decide +kernel
theorem dX8_shopIs_33 : decode cX8_shopIs 33 = .ok (.invokevirtual 92, 3) := by decide +kernel
theorem dX8_shopIs_36 : decode cX8_shopIs 36 = .ok (.ireturn, 1) := by decide +kernel
theorem dX8_as_0 : decode cX8_as 0 = .ok (.aload_n 0, 1) := by decide +kernel
theorem dX8_as_1 : decode cX8_as 1 = .ok (.getfield 10, 3) := by decide +kernel
theorem dX8_as_4 : decode cX8_as 4 = .ok (.iload_n 1, 1) := by decide +kernel
theorem dX8_as_5 : decode cX8_as 5 = .ok (.invokevirtual 89, 3) := by decide +kernel
theorem dX8_as_8 : decode cX8_as 8 = .ok (.ifCond .eq 13, 3) := by decide +kernel
theorem dX8_as_11 : decode cX8_as 11 = .ok (.iload_n 2, 1) := by decide +kernel
theorem dX8_as_12 : decode cX8_as 12 = .ok (.iconst 0, 1) := by decide +kernel
theorem dX8_as_13 : decode cX8_as 13 = .ok (.bipush 6, 2) := by decide +kernel
theorem dX8_as_15 : decode cX8_as 15 = .ok (.invokestatic 58, 3) := by decide +kernel
theorem dX8_as_18 : decode cX8_as 18 = .ok (.ifCond .ne 9, 3) := by decide +kernel
theorem dX8_as_21 : decode cX8_as 21 = .ok (.aload_n 0, 1) := by decide +kernel
theorem dX8_as_22 : decode cX8_as 22 = .ok (.iconst 1, 1) := by decide +kernel
theorem dX8_as_23 : decode cX8_as 23 = .ok (.invokevirtual 62, 3) := by decide +kernel
theorem dX8_as_26 : decode cX8_as 26 = .ok (.ireturn, 1) := by decide +kernel
theorem dX8_as_27 : decode cX8_as 27 = .ok (.aload_n 0, 1) := by decide +kernel
theorem dX8_as_28 : decode cX8_as 28 = .ok (.getfield 10, 3) := by decide +kernel
theorem dX8_as_31 : decode cX8_as 31 = .ok (.getfield 79, 3) := by decide +kernel
theorem dX8_as_34 : decode cX8_as 34 = .ok (.iload_n 1, 1) := by decide +kernel
theorem dX8_as_35 : decode cX8_as 35 = .ok (.aaload, 1) := by decide +kernel
theorem dX8_as_36 : decode cX8_as 36 = .ok (.getfield 96, 3) := by decide +kernel
theorem dX8_as_39 : decode cX8_as 39 = .ok (.iload_n 2, 1) := by decide +kernel
theorem dX8_as_40 : decode cX8_as 40 = .ok (.invokestatic 99, 3) := by decide +kernel
theorem dX8_as_43 : decode cX8_as 43 = .ok (.ifCond .ne 9, 3) := by decide +kernel
theorem dX8_as_46 : decode cX8_as 46 = .ok (.aload_n 0, 1) := by decide +kernel
theorem dX8_as_47 : decode cX8_as 47 = .ok (.iconst 5, 1) := by decide +kernel
theorem dX8_as_48 : decode cX8_as 48 = .ok (.invokevirtual 62, 3) := by decide +kernel
theorem dX8_as_51 : decode cX8_as 51 = .ok (.ireturn, 1) := by decide +kernel
theorem dX8_as_52 : decode cX8_as 52 = .ok (.aload_n 0, 1) := by decide +kernel
theorem dX8_as_53 : decode cX8_as 53 = .ok (.getfield 10, 3) := by decide +kernel
theorem dX8_as_56 : decode cX8_as 56 = .ok (.getfield 79, 3) := by decide +kernel
theorem dX8_as_59 : decode cX8_as 59 = .ok (.iload_n 1, 1) := by decide +kernel
theorem dX8_as_60 : decode cX8_as 60 = .ok (.aaload, 1) := by decide +kernel
theorem dX8_as_61 : decode cX8_as 61 = .ok (.getfield 103, 3) := by decide +kernel
theorem dX8_as_64 : decode cX8_as 64 = .ok (.ireturn, 1) := by decide +kernel
theorem dX8_set_0 : decode cX8_set 0 = .ok (.aload_n 0, 1) := by decide +kernel
theorem dX8_set_1 : decode cX8_set 1 = .ok (.getfield 10, 3) := by decide +kernel
theorem dX8_set_4 : decode cX8_set 4 = .ok (.iload_n 1, 1) := by decide +kernel
theorem dX8_set_5 : decode cX8_set 5 = .ok (.invokevirtual 89, 3) := by decide +kernel
theorem dX8_set_8 : decode cX8_set 8 = .ok (.ifCond .eq 15, 3) := by decide +kernel
theorem dX8_set_11 : decode cX8_set 11 = .ok (.iload_n 3, 1) := by decide +kernel
theorem dX8_set_12 : decode cX8_set 12 = .ok (.iconst 0, 1) := by decide +kernel
theorem dX8_set_13 : decode cX8_set 13 = .ok (.iload_n 2, 1) := by decide +kernel
theorem dX8_set_14 : decode cX8_set 14 = .ok (.invokestatic 106, 3) := by decide +kernel
theorem dX8_set_17 : decode cX8_set 17 = .ok (.invokestatic 58, 3) := by decide +kernel
theorem dX8_set_20 : decode cX8_set 20 = .ok (.ifCond .ne 9, 3) := by decide +kernel
theorem dX8_set_23 : decode cX8_set 23 = .ok (.aload_n 0, 1) := by decide +kernel
theorem dX8_set_24 : decode cX8_set 24 = .ok (.iconst 1, 1) := by decide +kernel
theorem dX8_set_25 : decode cX8_set 25 = .ok (.invokevirtual 62, 3) := by decide +kernel
theorem dX8_set_28 : decode cX8_set 28 = .ok (.ireturn, 1) := by decide +kernel
theorem dX8_set_29 : decode cX8_set 29 = .ok (.aload_n 0, 1) := by decide +kernel
theorem dX8_set_30 : decode cX8_set 30 = .ok (.getfield 10, 3) := by decide +kernel
theorem dX8_set_33 : decode cX8_set 33 = .ok (.iload_n 1, 1) := by decide +kernel
theorem dX8_set_34 : decode cX8_set 34 = .ok (.iload_n 2, 1) := by decide +kernel
theorem dX8_set_35 : decode cX8_set 35 = .ok (.invokevirtual 92, 3) := by decide +kernel
theorem dX8_set_38 : decode cX8_set 38 = .ok (.istore 4, 2) := by decide +kernel
theorem dX8_set_40 : decode cX8_set 40 = .ok (.aload_n 0, 1) := by decide +kernel
theorem dX8_set_41 : decode cX8_set 41 = .ok (.getfield 10, 3) := by decide +kernel
theorem dX8_set_44 : decode cX8_set 44 = .ok (.getfield 79, 3) := by decide +kernel
theorem dX8_set_47 : decode cX8_set 47 = .ok (.iload_n 1, 1) := by decide +kernel
theorem dX8_set_48 : decode cX8_set 48 = .ok (.aaload, 1) := by decide +kernel
theorem dX8_set_49 : decode cX8_set 49 = .ok (.iload_n 2, 1) := by decide +kernel
theorem dX8_set_50 : decode cX8_set 50 = .ok (.iload_n 3, 1) := by decide +kernel
theorem dX8_set_51 : decode cX8_set 51 = .ok (.invokevirtual 109, 3) := by decide +kernel
theorem dX8_set_54 : decode cX8_set 54 = .ok (.iload 4, 2) := by decide +kernel
theorem dX8_set_56 : decode cX8_set 56 = .ok (.ireturn, 1) := by decide +kernel
theorem dX8_price_0 : decode cX8_price 0 = .ok (.aload_n 0, 1) := by decide +kernel
theorem dX8_price_1 : decode cX8_price 1 = .ok (.getfield 10, 3) := by decide +kernel
theorem dX8_price_4 : decode cX8_price 4 = .ok (.iload_n 1, 1) := by decide +kernel
theorem dX8_price_5 : decode cX8_price 5 = .ok (.invokevirtual 89, 3) := by decide +kernel
theorem dX8_price_8 : decode cX8_price 8 = .ok (.ifCond .eq 10, 3) := by decide +kernel
theorem dX8_price_11 : decode cX8_price 11 = .ok (.iload_n 2, 1) := by decide +kernel
theorem dX8_price_12 : decode cX8_price 12 = .ok (.invokestatic 54, 3) := by decide +kernel
theorem dX8_price_15 : decode cX8_price 15 = .ok (.ifCond .ne 9, 3) := by decide +kernel
theorem dX8_price_18 : decode cX8_price 18 = .ok (.aload_n 0, 1) := by decide +kernel
theorem dX8_price_19 : decode cX8_price 19 = .ok (.iconst 1, 1) := by decide +kernel
theorem dX8_price_20 : decode cX8_price 20 = .ok (.invokevirtual 62, 3) := by decide +kernel
theorem dX8_price_23 : decode cX8_price 23 = .ok (.ireturn, 1) := by decide +kernel
theorem dX8_price_24 : decode cX8_price 24 = .ok (.aload_n 0, 1) := by decide +kernel
theorem dX8_price_25 : decode cX8_price 25 = .ok (.getfield 10, 3) := by decide +kernel
theorem dX8_price_28 : decode cX8_price 28 = .ok (.iload_n 1, 1) := by decide +kernel
theorem dX8_price_29 : decode cX8_price 29 = .ok (.iload_n 2, 1) := by decide +kernel
theorem dX8_price_30 : decode cX8_price 30 = .ok (.invokevirtual 112, 3) := by decide +kernel
theorem dX8_price_33 : decode cX8_price 33 = .ok (.ireturn, 1) := by decide +kernel
theorem dX8_fills_0 : decode cX8_fills 0 = .ok (.aload_n 0, 1) := by decide +kernel
theorem dX8_fills_1 : decode cX8_fills 1 = .ok (.getfield 10, 3) := by decide +kernel
theorem dX8_fills_4 : decode cX8_fills 4 = .ok (.iload_n 1, 1) := by decide +kernel
theorem dX8_fills_5 : decode cX8_fills 5 = .ok (.invokevirtual 89, 3) := by decide +kernel
theorem dX8_fills_8 : decode cX8_fills 8 = .ok (.ifCond .eq 10, 3) := by decide +kernel
theorem dX8_fills_11 : decode cX8_fills 11 = .ok (.iload_n 2, 1) := by decide +kernel
theorem dX8_fills_12 : decode cX8_fills 12 = .ok (.invokestatic 54, 3) := by decide +kernel
theorem dX8_fills_15 : decode cX8_fills 15 = .ok (.ifCond .ne 9, 3) := by decide +kernel
theorem dX8_fills_18 : decode cX8_fills 18 = .ok (.aload_n 0, 1) := by decide +kernel
theorem dX8_fills_19 : decode cX8_fills 19 = .ok (.iconst 1, 1) := by decide +kernel
theorem dX8_fills_20 : decode cX8_fills 20 = .ok (.invokevirtual 62, 3) := by decide +kernel
theorem dX8_fills_23 : decode cX8_fills 23 = .ok (.ireturn, 1) := by decide +kernel
theorem dX8_fills_24 : decode cX8_fills 24 = .ok (.aload_n 0, 1) := by decide +kernel
theorem dX8_fills_25 : decode cX8_fills 25 = .ok (.getfield 10, 3) := by decide +kernel
theorem dX8_fills_28 : decode cX8_fills 28 = .ok (.iload_n 1, 1) := by decide +kernel
theorem dX8_fills_29 : decode cX8_fills 29 = .ok (.iload_n 2, 1) := by decide +kernel
theorem dX8_fills_30 : decode cX8_fills 30 = .ok (.invokevirtual 115, 3) := by decide +kernel
theorem dX8_fills_33 : decode cX8_fills 33 = .ok (.ireturn, 1) := by decide +kernel
theorem dX8_customer_0 : decode cX8_customer 0 = .ok (.iload_n 1, 1) := by decide +kernel
theorem dX8_customer_1 : decode cX8_customer 1 = .ok (.iload_n 2, 1) := by decide +kernel
theorem dX8_customer_2 : decode cX8_customer 2 = .ok (.iload_n 3, 1) := by decide +kernel
theorem dX8_customer_3 : decode cX8_customer 3 = .ok (.invokestatic 118, 3) := by decide +kernel
theorem dX8_customer_6 : decode cX8_customer 6 = .ok (.ifCond .ne 9, 3) := by decide +kernel
theorem dX8_customer_9 : decode cX8_customer 9 = .ok (.aload_n 0, 1) := by decide +kernel
theorem dX8_customer_10 : decode cX8_customer 10 = .ok (.iconst 1, 1) := by decide +kernel
theorem dX8_customer_11 : decode cX8_customer 11 = .ok (.invokevirtual 62, 3) := by decide +kernel
theorem dX8_customer_14 : decode cX8_customer 14 = .ok (.ireturn, 1) := by decide +kernel
theorem dX8_customer_15 : decode cX8_customer 15 = .ok (.aload_n 0, 1) := by decide +kernel
theorem dX8_customer_16 : decode cX8_customer 16 = .ok (.getfield 10, 3) := by decide +kernel
theorem dX8_customer_19 : decode cX8_customer 19 = .ok (.getfield 121, 3) := by decide +kernel
theorem dX8_customer_22 : decode cX8_customer 22 = .ok (.bipush 10, 2) := by decide +kernel
theorem dX8_customer_24 : decode cX8_customer 24 = .ok (.if_icmp .lt 9, 3) := by decide +kernel
theorem dX8_customer_27 : decode cX8_customer 27 = .ok (.aload_n 0, 1) := by decide +kernel
theorem dX8_customer_28 : decode cX8_customer 28 = .ok (.iconst 4, 1) := by decide +kernel
theorem dX8_customer_29 : decode cX8_customer 29 = .ok (.invokevirtual 62, 3) := by decide +kernel
theorem dX8_customer_32 : decode cX8_customer 32 = .ok (.ireturn, 1) := by decide +kernel
theorem dX8_customer_33 : decode cX8_customer 33 = .ok (.aload_n 0, 1) := by decide +kernel
theorem dX8_customer_34 : decode cX8_customer 34 = .ok (.getfield 10, 3) := by decide +kernel
theorem dX8_customer_37 : decode cX8_customer 37 = .ok (.iload_n 1, 1) := by decide +kernel
theorem dX8_customer_38 : decode cX8_customer 38 = .ok (.iload_n 2, 1) := by decide +kernel
theorem dX8_customer_39 : decode cX8_customer 39 = .ok (.iload_n 3, 1) := by decide +kernel
theorem dX8_customer_40 : decode cX8_customer 40 = .ok (.invokevirtual 124, 3) := by decide +kernel
theorem dX8_customer_43 : decode cX8_customer 43 = .ok (.aload_n 0, 1) := by decide +kernel
theorem dX8_customer_44 : decode cX8_customer 44 = .ok (.getfield 10, 3) := by decide +kernel
theorem dX8_customer_47 : decode cX8_customer 47 = .ok (.getfield 121, 3) := by decide +kernel
theorem dX8_customer_50 : decode cX8_customer 50 = .ok (.iconst 1, 1) := by decide +kernel
theorem dX8_customer_51 : decode cX8_customer 51 = .ok (.isub, 1) := by decide +kernel
theorem dX8_customer_52 : decode cX8_customer 52 = .ok (.ireturn, 1) := by decide +kernel
theorem dX8_customerIs_0 : decode cX8_customerIs 0 = .ok (.aload_n 0, 1) := by decide +kernel
theorem dX8_customerIs_1 : decode cX8_customerIs 1 = .ok (.getfield 10, 3) := by decide +kernel
theorem dX8_customerIs_4 : decode cX8_customerIs 4 = .ok (.iload_n 1, 1) := by decide +kernel
theorem dX8_customerIs_5 : decode cX8_customerIs 5 = .ok (.invokevirtual 128, 3) := by decide +kernel
theorem dX8_customerIs_8 : decode cX8_customerIs 8 = .ok (.ifCond .ne 9, 3) := by decide +kernel
theorem dX8_customerIs_11 : decode cX8_customerIs 11 = .ok (.aload_n 0, 1) := by decide +kernel
theorem dX8_customerIs_12 : decode cX8_customerIs 12 = .ok (.iconst 1, 1) := by decide +kernel
theorem dX8_customerIs_13 : decode cX8_customerIs 13 = .ok (.invokevirtual 62, 3) := by decide +kernel
theorem dX8_customerIs_16 : decode cX8_customerIs 16 = .ok (.ireturn, 1) := by decide +kernel
theorem dX8_customerIs_17 : decode cX8_customerIs 17 = .ok (.aload_n 0, 1) := by decide +kernel
theorem dX8_customerIs_18 : decode cX8_customerIs 18 = .ok (.getfield 10, 3) := by decide +kernel
theorem dX8_customerIs_21 : decode cX8_customerIs 21 = .ok (.getfield 131, 3) := by decide +kernel
theorem dX8_customerIs_24 : decode cX8_customerIs 24 = .ok (.iload_n 1, 1) := by decide +kernel
theorem dX8_customerIs_25 : decode cX8_customerIs 25 = .ok (.aaload, 1) := by decide +kernel
theorem dX8_customerIs_26 : decode cX8_customerIs 26 = .ok (.astore_n 3, 1) := by decide +kernel
theorem dX8_customerIs_27 : decode cX8_customerIs 27 = .ok (.iload_n 2, 1) := by decide +kernel
theorem dX8_customerIs_28 : decode cX8_customerIs 28 = .ok (.tableswitch 52 0 3 #[32, 37, 42, 47], 32) := by decide +kernel
theorem dX8_customerIs_60 : decode cX8_customerIs 60 = .ok (.aload_n 3, 1) := by decide +kernel
theorem dX8_customerIs_61 : decode cX8_customerIs 61 = .ok (.getfield 135, 3) := by decide +kernel
theorem dX8_customerIs_64 : decode cX8_customerIs 64 = .ok (.ireturn, 1) := by decide +kernel
theorem dX8_customerIs_65 : decode cX8_customerIs 65 = .ok (.aload_n 3, 1) := by decide +kernel
theorem dX8_customerIs_66 : decode cX8_customerIs 66 = .ok (.getfield 140, 3) := by decide +kernel
theorem dX8_customerIs_69 : decode cX8_customerIs 69 = .ok (.ireturn, 1) := by decide +kernel
theorem dX8_customerIs_70 : decode cX8_customerIs 70 = .ok (.aload_n 3, 1) := by decide +kernel
theorem dX8_customerIs_71 : decode cX8_customerIs 71 = .ok (.getfield 143, 3) := by decide +kernel
theorem dX8_customerIs_74 : decode cX8_customerIs 74 = .ok (.ireturn, 1) := by decide +kernel
theorem dX8_customerIs_75 : decode cX8_customerIs 75 = .ok (.aload_n 3, 1) := by decide +kernel
theorem dX8_customerIs_76 : decode cX8_customerIs 76 = .ok (.getfield 146, 3) := by decide +kernel
theorem dX8_customerIs_79 : decode cX8_customerIs 79 = .ok (.ireturn, 1) := by decide +kernel
theorem dX8_customerIs_80 : decode cX8_customerIs 80 = .ok (.aload_n 0, 1) := by decide +kernel
theorem dX8_customerIs_81 : decode cX8_customerIs 81 = .ok (.iconst 1, 1) := by decide +kernel
theorem dX8_customerIs_82 : decode cX8_customerIs 82 = .ok (.invokevirtual 62, 3) := by decide +kernel
theorem dX8_customerIs_85 : decode cX8_customerIs 85 = .ok (.ireturn, 1) := by decide +kernel
theorem dX8_leave_0 : decode cX8_leave 0 = .ok (.aload_n 0, 1) := by decide +kernel
theorem dX8_leave_1 : decode cX8_leave 1 = .ok (.getfield 10, 3) := by decide +kernel
theorem dX8_leave_4 : decode cX8_leave 4 = .ok (.getfield 121, 3) := by decide +kernel
theorem dX8_leave_7 : decode cX8_leave 7 = .ok (.ifCond .gt 9, 3) := by decide +kernel
theorem dX8_leave_10 : decode cX8_leave 10 = .ok (.aload_n 0, 1) := by decide +kernel
theorem dX8_leave_11 : decode cX8_leave 11 = .ok (.iconst 3, 1) := by decide +kernel
theorem dX8_leave_12 : decode cX8_leave 12 = .ok (.invokevirtual 62, 3) := by decide +kernel
theorem dX8_leave_15 : decode cX8_leave 15 = .ok (.ireturn, 1) := by decide +kernel
theorem dX8_leave_16 : decode cX8_leave 16 = .ok (.aload_n 0, 1) := by decide +kernel
theorem dX8_leave_17 : decode cX8_leave 17 = .ok (.getfield 10, 3) := by decide +kernel
theorem dX8_leave_20 : decode cX8_leave 20 = .ok (.dup, 1) := by decide +kernel
theorem dX8_leave_21 : decode cX8_leave 21 = .ok (.getfield 121, 3) := by decide +kernel
theorem dX8_leave_24 : decode cX8_leave 24 = .ok (.iconst 1, 1) := by decide +kernel
theorem dX8_leave_25 : decode cX8_leave 25 = .ok (.isub, 1) := by decide +kernel
theorem dX8_leave_26 : decode cX8_leave 26 = .ok (.putfield 121, 3) := by decide +kernel
theorem dX8_leave_29 : decode cX8_leave 29 = .ok (.aload_n 0, 1) := by decide +kernel
theorem dX8_leave_30 : decode cX8_leave 30 = .ok (.getfield 10, 3) := by decide +kernel
theorem dX8_leave_33 : decode cX8_leave 33 = .ok (.getfield 121, 3) := by decide +kernel
theorem dX8_leave_36 : decode cX8_leave 36 = .ok (.ireturn, 1) := by decide +kernel
theorem dX8_feed_0 : decode cX8_feed 0 = .ok (.iload_n 3, 1) := by decide +kernel
theorem dX8_feed_1 : decode cX8_feed 1 = .ok (.iconst 1, 1) := by decide +kernel
theorem dX8_feed_2 : decode cX8_feed 2 = .ok (.bipush 8, 2) := by decide +kernel
theorem dX8_feed_4 : decode cX8_feed 4 = .ok (.invokestatic 58, 3) := by decide +kernel
theorem dX8_feed_7 : decode cX8_feed 7 = .ok (.ifCond .ne 9, 3) := by decide +kernel
theorem dX8_feed_10 : decode cX8_feed 10 = .ok (.aload_n 0, 1) := by decide +kernel
theorem dX8_feed_11 : decode cX8_feed 11 = .ok (.iconst 1, 1) := by decide +kernel
theorem dX8_feed_12 : decode cX8_feed 12 = .ok (.invokevirtual 62, 3) := by decide +kernel
theorem dX8_feed_15 : decode cX8_feed 15 = .ok (.ireturn, 1) := by decide +kernel
theorem dX8_feed_16 : decode cX8_feed 16 = .ok (.aload_n 0, 1) := by decide +kernel
theorem dX8_feed_17 : decode cX8_feed 17 = .ok (.getfield 10, 3) := by decide +kernel
theorem dX8_feed_20 : decode cX8_feed 20 = .ok (.getfield 149, 3) := by decide +kernel
theorem dX8_feed_23 : decode cX8_feed 23 = .ok (.iload_n 3, 1) := by decide +kernel
theorem dX8_feed_24 : decode cX8_feed 24 = .ok (.iadd, 1) := by decide +kernel
theorem dX8_feed_25 : decode cX8_feed 25 = .ok (.bipush 60, 2) := by decide +kernel
theorem dX8_feed_27 : decode cX8_feed 27 = .ok (.if_icmp .le 9, 3) := by decide +kernel
theorem dX8_feed_30 : decode cX8_feed 30 = .ok (.aload_n 0, 1) := by decide +kernel
theorem dX8_feed_31 : decode cX8_feed 31 = .ok (.iconst 4, 1) := by decide +kernel
theorem dX8_feed_32 : decode cX8_feed 32 = .ok (.invokevirtual 62, 3) := by decide +kernel
theorem dX8_feed_35 : decode cX8_feed 35 = .ok (.ireturn, 1) := by decide +kernel
theorem dX8_feed_36 : decode cX8_feed 36 = .ok (.iconst 0, 1) := by decide +kernel
theorem dX8_feed_37 : decode cX8_feed 37 = .ok (.istore 4, 2) := by decide +kernel
theorem dX8_feed_39 : decode cX8_feed 39 = .ok (.iload 4, 2) := by decide +kernel
theorem dX8_feed_41 : decode cX8_feed 41 = .ok (.iload_n 3, 1) := by decide +kernel
theorem dX8_feed_42 : decode cX8_feed 42 = .ok (.if_icmp .ge 39, 3) := by decide +kernel
theorem dX8_feed_45 : decode cX8_feed 45 = .ok (.aload_n 0, 1) := by decide +kernel
theorem dX8_feed_46 : decode cX8_feed 46 = .ok (.getfield 10, 3) := by decide +kernel
theorem dX8_feed_49 : decode cX8_feed 49 = .ok (.getfield 152, 3) := by decide +kernel
theorem dX8_feed_52 : decode cX8_feed 52 = .ok (.aload_n 0, 1) := by decide +kernel
theorem dX8_feed_53 : decode cX8_feed 53 = .ok (.getfield 10, 3) := by decide +kernel
theorem dX8_feed_56 : decode cX8_feed 56 = .ok (.getfield 149, 3) := by decide +kernel
theorem dX8_feed_59 : decode cX8_feed 59 = .ok (.iload 4, 2) := by decide +kernel
theorem dX8_feed_61 : decode cX8_feed 61 = .ok (.iadd, 1) := by decide +kernel
theorem dX8_feed_62 : decode cX8_feed 62 = .ok (.lload_n 1, 1) := by decide +kernel
theorem dX8_feed_63 : decode cX8_feed 63 = .ok (.bipush 8, 2) := by decide +kernel
theorem dX8_feed_65 : decode cX8_feed 65 = .ok (.iload 4, 2) := by decide +kernel
theorem dX8_feed_67 : decode cX8_feed 67 = .ok (.imul, 1) := by decide +kernel
theorem dX8_feed_68 : decode cX8_feed 68 = .ok (.lushr, 1) := by decide +kernel
theorem dX8_feed_69 : decode cX8_feed 69 = .ok (.l2i, 1) := by decide +kernel
theorem dX8_feed_70 : decode cX8_feed 70 = .ok (.sipush 255, 3) := by decide +kernel
theorem dX8_feed_73 : decode cX8_feed 73 = .ok (.iand, 1) := by decide +kernel
theorem dX8_feed_74 : decode cX8_feed 74 = .ok (.iastore, 1) := by decide +kernel
theorem dX8_feed_75 : decode cX8_feed 75 = .ok (.iinc 4 1, 3) := by decide +kernel
theorem dX8_feed_78 : decode cX8_feed 78 = .ok (.goto (-39), 3) := by decide +kernel
theorem dX8_feed_81 : decode cX8_feed 81 = .ok (.aload_n 0, 1) := by decide +kernel
theorem dX8_feed_82 : decode cX8_feed 82 = .ok (.getfield 10, 3) := by decide +kernel
theorem dX8_feed_85 : decode cX8_feed 85 = .ok (.dup, 1) := by decide +kernel
theorem dX8_feed_86 : decode cX8_feed 86 = .ok (.getfield 149, 3) := by decide +kernel
theorem dX8_feed_89 : decode cX8_feed 89 = .ok (.iload_n 3, 1) := by decide +kernel
theorem dX8_feed_90 : decode cX8_feed 90 = .ok (.iadd, 1) := by decide +kernel
theorem dX8_feed_91 : decode cX8_feed 91 = .ok (.putfield 149, 3) := by decide +kernel
theorem dX8_feed_94 : decode cX8_feed 94 = .ok (.aload_n 0, 1) := by decide +kernel
theorem dX8_feed_95 : decode cX8_feed 95 = .ok (.getfield 10, 3) := by decide +kernel
theorem dX8_feed_98 : decode cX8_feed 98 = .ok (.getfield 149, 3) := by decide +kernel
theorem dX8_feed_101 : decode cX8_feed 101 = .ok (.ireturn, 1) := by decide +kernel
theorem dX8_text_0 : decode cX8_text 0 = .ok (.iload_n 1, 1) := by decide +kernel
theorem dX8_text_1 : decode cX8_text 1 = .ok (.invokestatic 155, 3) := by decide +kernel
theorem dX8_text_4 : decode cX8_text 4 = .ok (.ifCond .ne 9, 3) := by decide +kernel
theorem dX8_text_7 : decode cX8_text 7 = .ok (.aload_n 0, 1) := by decide +kernel
theorem dX8_text_8 : decode cX8_text 8 = .ok (.iconst 1, 1) := by decide +kernel
theorem dX8_text_9 : decode cX8_text 9 = .ok (.invokevirtual 62, 3) := by decide +kernel
theorem dX8_text_12 : decode cX8_text 12 = .ok (.ireturn, 1) := by decide +kernel
theorem dX8_text_13 : decode cX8_text 13 = .ok (.aload_n 0, 1) := by decide +kernel
theorem dX8_text_14 : decode cX8_text 14 = .ok (.getfield 31, 3) := by decide +kernel
theorem dX8_text_17 : decode cX8_text 17 = .ok (.aload_n 0, 1) := by decide +kernel
theorem dX8_text_18 : decode cX8_text 18 = .ok (.getfield 10, 3) := by decide +kernel
theorem dX8_text_21 : decode cX8_text 21 = .ok (.getfield 152, 3) := by decide +kernel
theorem dX8_text_24 : decode cX8_text 24 = .ok (.aload_n 0, 1) := by decide +kernel
theorem dX8_text_25 : decode cX8_text 25 = .ok (.getfield 10, 3) := by decide +kernel
theorem dX8_text_28 : decode cX8_text 28 = .ok (.getfield 149, 3) := by decide +kernel
theorem dX8_text_31 : decode cX8_text 31 = .ok (.iload_n 1, 1) := by decide +kernel
theorem dX8_text_32 : decode cX8_text 32 = .ok (.invokevirtual 158, 3) := by decide +kernel
theorem dX8_text_35 : decode cX8_text 35 = .ok (.istore_n 2, 1) := by decide +kernel
theorem dX8_text_36 : decode cX8_text 36 = .ok (.aload_n 0, 1) := by decide +kernel
theorem dX8_text_37 : decode cX8_text 37 = .ok (.getfield 10, 3) := by decide +kernel
theorem dX8_text_40 : decode cX8_text 40 = .ok (.iconst 0, 1) := by decide +kernel
theorem dX8_text_41 : decode cX8_text 41 = .ok (.putfield 149, 3) := by decide +kernel
theorem dX8_text_44 : decode cX8_text 44 = .ok (.iload_n 2, 1) := by decide +kernel
theorem dX8_text_45 : decode cX8_text 45 = .ok (.ifCond .lt 8, 3) := by decide +kernel
theorem dX8_text_48 : decode cX8_text 48 = .ok (.bipush (-10), 2) := by decide +kernel
theorem dX8_text_50 : decode cX8_text 50 = .ok (.iload_n 2, 1) := by decide +kernel
theorem dX8_text_51 : decode cX8_text 51 = .ok (.isub, 1) := by decide +kernel
theorem dX8_text_52 : decode cX8_text 52 = .ok (.ireturn, 1) := by decide +kernel
theorem dX8_text_53 : decode cX8_text 53 = .ok (.aload_n 0, 1) := by decide +kernel
theorem dX8_text_54 : decode cX8_text 54 = .ok (.getfield 10, 3) := by decide +kernel
theorem dX8_text_57 : decode cX8_text 57 = .ok (.getfield 162, 3) := by decide +kernel
theorem dX8_text_60 : decode cX8_text 60 = .ok (.iload_n 1, 1) := by decide +kernel
theorem dX8_text_61 : decode cX8_text 61 = .ok (.aaload, 1) := by decide +kernel
theorem dX8_text_62 : decode cX8_text 62 = .ok (.aload_n 0, 1) := by decide +kernel
theorem dX8_text_63 : decode cX8_text 63 = .ok (.getfield 31, 3) := by decide +kernel
theorem dX8_text_66 : decode cX8_text 66 = .ok (.getfield 166, 3) := by decide +kernel
theorem dX8_text_69 : decode cX8_text 69 = .ok (.aload_n 0, 1) := by decide +kernel
theorem dX8_text_70 : decode cX8_text 70 = .ok (.getfield 31, 3) := by decide +kernel
theorem dX8_text_73 : decode cX8_text 73 = .ok (.getfield 169, 3) := by decide +kernel
theorem dX8_text_76 : decode cX8_text 76 = .ok (.invokevirtual 172, 3) := by decide +kernel
theorem dX8_text_79 : decode cX8_text 79 = .ok (.iconst 1, 1) := by decide +kernel
theorem dX8_text_80 : decode cX8_text 80 = .ok (.ireturn, 1) := by decide +kernel
theorem dX8_untell_0 : decode cX8_untell 0 = .ok (.iload_n 1, 1) := by decide +kernel
theorem dX8_untell_1 : decode cX8_untell 1 = .ok (.invokestatic 155, 3) := by decide +kernel
theorem dX8_untell_4 : decode cX8_untell 4 = .ok (.ifCond .ne 9, 3) := by decide +kernel
theorem dX8_untell_7 : decode cX8_untell 7 = .ok (.aload_n 0, 1) := by decide +kernel
theorem dX8_untell_8 : decode cX8_untell 8 = .ok (.iconst 1, 1) := by decide +kernel
theorem dX8_untell_9 : decode cX8_untell 9 = .ok (.invokevirtual 62, 3) := by decide +kernel
theorem dX8_untell_12 : decode cX8_untell 12 = .ok (.ireturn, 1) := by decide +kernel
theorem dX8_untell_13 : decode cX8_untell 13 = .ok (.aload_n 0, 1) := by decide +kernel
theorem dX8_untell_14 : decode cX8_untell 14 = .ok (.getfield 10, 3) := by decide +kernel
theorem dX8_untell_17 : decode cX8_untell 17 = .ok (.getfield 162, 3) := by decide +kernel
theorem dX8_untell_20 : decode cX8_untell 20 = .ok (.iload_n 1, 1) := by decide +kernel
theorem dX8_untell_21 : decode cX8_untell 21 = .ok (.aaload, 1) := by decide +kernel
theorem dX8_untell_22 : decode cX8_untell 22 = .ok (.invokevirtual 178, 3) := by decide +kernel
theorem dX8_untell_25 : decode cX8_untell 25 = .ok (.ifCond .eq 7, 3) := by decide +kernel
theorem dX8_untell_28 : decode cX8_untell 28 = .ok (.iconst 1, 1) := by decide +kernel
theorem dX8_untell_29 : decode cX8_untell 29 = .ok (.goto 4, 3) := by decide +kernel
theorem dX8_untell_32 : decode cX8_untell 32 = .ok (.iconst 0, 1) := by decide +kernel
theorem dX8_untell_33 : decode cX8_untell 33 = .ok (.istore_n 2, 1) := by decide +kernel
theorem dX8_untell_34 : decode cX8_untell 34 = .ok (.aload_n 0, 1) := by decide +kernel
theorem dX8_untell_35 : decode cX8_untell 35 = .ok (.getfield 10, 3) := by decide +kernel
theorem dX8_untell_38 : decode cX8_untell 38 = .ok (.getfield 162, 3) := by decide +kernel
theorem dX8_untell_41 : decode cX8_untell 41 = .ok (.iload_n 1, 1) := by decide +kernel
theorem dX8_untell_42 : decode cX8_untell 42 = .ok (.aaload, 1) := by decide +kernel
theorem dX8_untell_43 : decode cX8_untell 43 = .ok (.iconst 0, 1) := by decide +kernel
theorem dX8_untell_44 : decode cX8_untell 44 = .ok (.putfield 182, 3) := by decide +kernel
theorem dX8_untell_47 : decode cX8_untell 47 = .ok (.iload_n 2, 1) := by decide +kernel
theorem dX8_untell_48 : decode cX8_untell 48 = .ok (.ireturn, 1) := by decide +kernel
theorem dX8_morning_0 : decode cX8_morning 0 = .ok (.aload_n 0, 1) := by decide +kernel
theorem dX8_morning_1 : decode cX8_morning 1 = .ok (.getfield 10, 3) := by decide +kernel
theorem dX8_morning_4 : decode cX8_morning 4 = .ok (.invokevirtual 185, 3) := by decide +kernel
theorem dX8_morning_7 : decode cX8_morning 7 = .ok (.aload_n 0, 1) := by decide +kernel
theorem dX8_morning_8 : decode cX8_morning 8 = .ok (.getfield 10, 3) := by decide +kernel
theorem dX8_morning_11 : decode cX8_morning 11 = .ok (.invokevirtual 188, 3) := by decide +kernel
theorem dX8_morning_14 : decode cX8_morning 14 = .ok (.ireturn, 1) := by decide +kernel
theorem dX8_visit_0 : decode cX8_visit 0 = .ok (.aload_n 0, 1) := by decide +kernel
theorem dX8_visit_1 : decode cX8_visit 1 = .ok (.getfield 10, 3) := by decide +kernel
theorem dX8_visit_4 : decode cX8_visit 4 = .ok (.iload_n 1, 1) := by decide +kernel
theorem dX8_visit_5 : decode cX8_visit 5 = .ok (.invokevirtual 128, 3) := by decide +kernel
theorem dX8_visit_8 : decode cX8_visit 8 = .ok (.ifCond .ne 9, 3) := by decide +kernel
theorem dX8_visit_11 : decode cX8_visit 11 = .ok (.aload_n 0, 1) := by decide +kernel
theorem dX8_visit_12 : decode cX8_visit 12 = .ok (.iconst 1, 1) := by decide +kernel
theorem dX8_visit_13 : decode cX8_visit 13 = .ok (.invokevirtual 62, 3) := by decide +kernel
theorem dX8_visit_16 : decode cX8_visit 16 = .ok (.ireturn, 1) := by decide +kernel
theorem dX8_visit_17 : decode cX8_visit 17 = .ok (.aload_n 0, 1) := by decide +kernel
theorem dX8_visit_18 : decode cX8_visit 18 = .ok (.getfield 10, 3) := by decide +kernel
theorem dX8_visit_21 : decode cX8_visit 21 = .ok (.iload_n 1, 1) := by decide +kernel
theorem dX8_visit_22 : decode cX8_visit 22 = .ok (.invokevirtual 192, 3) := by decide +kernel
theorem dX8_visit_25 : decode cX8_visit 25 = .ok (.ireturn, 1) := by decide +kernel
theorem dX8_days_0 : decode cX8_days 0 = .ok (.aload_n 0, 1) := by decide +kernel
theorem dX8_days_1 : decode cX8_days 1 = .ok (.iload_n 1, 1) := by decide +kernel
theorem dX8_days_2 : decode cX8_days 2 = .ok (.invokevirtual 195, 3) := by decide +kernel
theorem dX8_days_5 : decode cX8_days 5 = .ok (.istore_n 2, 1) := by decide +kernel
theorem dX8_days_6 : decode cX8_days 6 = .ok (.iload_n 2, 1) := by decide +kernel
theorem dX8_days_7 : decode cX8_days 7 = .ok (.ifCond .eq 9, 3) := by decide +kernel
theorem dX8_days_10 : decode cX8_days 10 = .ok (.aload_n 0, 1) := by decide +kernel
theorem dX8_days_11 : decode cX8_days 11 = .ok (.iload_n 2, 1) := by decide +kernel
theorem dX8_days_12 : decode cX8_days 12 = .ok (.invokevirtual 62, 3) := by decide +kernel
theorem dX8_days_15 : decode cX8_days 15 = .ok (.ireturn, 1) := by decide +kernel
theorem dX8_days_16 : decode cX8_days 16 = .ok (.aload_n 0, 1) := by decide +kernel
theorem dX8_days_17 : decode cX8_days 17 = .ok (.getfield 10, 3) := by decide +kernel
theorem dX8_days_20 : decode cX8_days 20 = .ok (.iload_n 1, 1) := by decide +kernel
theorem dX8_days_21 : decode cX8_days 21 = .ok (.iconst 0, 1) := by decide +kernel
theorem dX8_days_22 : decode cX8_days 22 = .ok (.invokevirtual 198, 3) := by decide +kernel
theorem dX8_days_25 : decode cX8_days 25 = .ok (.aload_n 0, 1) := by decide +kernel
theorem dX8_days_26 : decode cX8_days 26 = .ok (.getfield 10, 3) := by decide +kernel
theorem dX8_days_29 : decode cX8_days 29 = .ok (.getfield 202, 3) := by decide +kernel
theorem dX8_days_32 : decode cX8_days 32 = .ok (.ireturn, 1) := by decide +kernel
theorem dX8_loose_0 : decode cX8_loose 0 = .ok (.aload_n 0, 1) := by decide +kernel
theorem dX8_loose_1 : decode cX8_loose 1 = .ok (.iload_n 1, 1) := by decide +kernel
theorem dX8_loose_2 : decode cX8_loose 2 = .ok (.invokevirtual 195, 3) := by decide +kernel
theorem dX8_loose_5 : decode cX8_loose 5 = .ok (.istore_n 2, 1) := by decide +kernel
theorem dX8_loose_6 : decode cX8_loose 6 = .ok (.iload_n 2, 1) := by decide +kernel
theorem dX8_loose_7 : decode cX8_loose 7 = .ok (.ifCond .eq 9, 3) := by decide +kernel
theorem dX8_loose_10 : decode cX8_loose 10 = .ok (.aload_n 0, 1) := by decide +kernel
theorem dX8_loose_11 : decode cX8_loose 11 = .ok (.iload_n 2, 1) := by decide +kernel
theorem dX8_loose_12 : decode cX8_loose 12 = .ok (.invokevirtual 62, 3) := by decide +kernel
theorem dX8_loose_15 : decode cX8_loose 15 = .ok (.ireturn, 1) := by decide +kernel
theorem dX8_loose_16 : decode cX8_loose 16 = .ok (.aload_n 0, 1) := by decide +kernel
theorem dX8_loose_17 : decode cX8_loose 17 = .ok (.getfield 10, 3) := by decide +kernel
theorem dX8_loose_20 : decode cX8_loose 20 = .ok (.iload_n 1, 1) := by decide +kernel
theorem dX8_loose_21 : decode cX8_loose 21 = .ok (.iconst 1, 1) := by decide +kernel
theorem dX8_loose_22 : decode cX8_loose 22 = .ok (.invokevirtual 198, 3) := by decide +kernel
theorem dX8_loose_25 : decode cX8_loose 25 = .ok (.aload_n 0, 1) := by decide +kernel
theorem dX8_loose_26 : decode cX8_loose 26 = .ok (.getfield 10, 3) := by decide +kernel
theorem dX8_loose_29 : decode cX8_loose 29 = .ok (.getfield 202, 3) := by decide +kernel
theorem dX8_loose_32 : decode cX8_loose 32 = .ok (.ireturn, 1) := by decide +kernel
theorem dX8_seed_0 : decode cX8_seed 0 = .ok (.aload_n 0, 1) := by decide +kernel
theorem dX8_seed_1 : decode cX8_seed 1 = .ok (.getfield 10, 3) := by decide +kernel
theorem dX8_seed_4 : decode cX8_seed 4 = .ok (.getfield 205, 3) := by decide +kernel
theorem dX8_seed_7 : decode cX8_seed 7 = .ok (.istore_n 2, 1) := by decide +kernel
theorem dX8_seed_8 : decode cX8_seed 8 = .ok (.aload_n 0, 1) := by decide +kernel
theorem dX8_seed_9 : decode cX8_seed 9 = .ok (.getfield 10, 3) := by decide +kernel
theorem dX8_seed_12 : decode cX8_seed 12 = .ok (.iload_n 1, 1) := by decide +kernel
theorem dX8_seed_13 : decode cX8_seed 13 = .ok (.putfield 205, 3) := by decide +kernel
theorem dX8_seed_16 : decode cX8_seed 16 = .ok (.iload_n 2, 1) := by decide +kernel
theorem dX8_seed_17 : decode cX8_seed 17 = .ok (.ireturn, 1) := by decide +kernel
theorem dX8_then_0 : decode cX8_then 0 = .ok (.iload_n 1, 1) := by decide +kernel
theorem dX8_then_1 : decode cX8_then 1 = .ok (.iconst 0, 1) := by decide +kernel
theorem dX8_then_2 : decode cX8_then 2 = .ok (.bipush 60, 2) := by decide +kernel
theorem dX8_then_4 : decode cX8_then 4 = .ok (.invokestatic 58, 3) := by decide +kernel
theorem dX8_then_7 : decode cX8_then 7 = .ok (.ifCond .eq 24, 3) := by decide +kernel
theorem dX8_then_10 : decode cX8_then 10 = .ok (.aload_n 0, 1) := by decide +kernel
theorem dX8_then_11 : decode cX8_then 11 = .ok (.getfield 10, 3) := by decide +kernel
theorem dX8_then_14 : decode cX8_then 14 = .ok (.iload_n 2, 1) := by decide +kernel
theorem dX8_then_15 : decode cX8_then 15 = .ok (.invokevirtual 89, 3) := by decide +kernel
theorem dX8_then_18 : decode cX8_then 18 = .ok (.ifCond .eq 13, 3) := by decide +kernel
theorem dX8_then_21 : decode cX8_then 21 = .ok (.iload_n 3, 1) := by decide +kernel
theorem dX8_then_22 : decode cX8_then 22 = .ok (.iconst 0, 1) := by decide +kernel
theorem dX8_then_23 : decode cX8_then 23 = .ok (.bipush 15, 2) := by decide +kernel
theorem dX8_then_25 : decode cX8_then 25 = .ok (.invokestatic 58, 3) := by decide +kernel
theorem dX8_then_28 : decode cX8_then 28 = .ok (.ifCond .ne 9, 3) := by decide +kernel
theorem dX8_then_31 : decode cX8_then 31 = .ok (.aload_n 0, 1) := by decide +kernel
theorem dX8_then_32 : decode cX8_then 32 = .ok (.iconst 1, 1) := by decide +kernel
theorem dX8_then_33 : decode cX8_then 33 = .ok (.invokevirtual 62, 3) := by decide +kernel
theorem dX8_then_36 : decode cX8_then 36 = .ok (.ireturn, 1) := by decide +kernel
theorem dX8_then_37 : decode cX8_then 37 = .ok (.aload_n 0, 1) := by decide +kernel
theorem dX8_then_38 : decode cX8_then 38 = .ok (.getfield 19, 3) := by decide +kernel
theorem dX8_then_41 : decode cX8_then 41 = .ok (.aload_n 0, 1) := by decide +kernel
theorem dX8_then_42 : decode cX8_then 42 = .ok (.getfield 10, 3) := by decide +kernel
theorem dX8_then_45 : decode cX8_then 45 = .ok (.invokevirtual 208, 3) := by decide +kernel
theorem dX8_then_48 : decode cX8_then 48 = .ok (.aload_n 0, 1) := by decide +kernel
theorem dX8_then_49 : decode cX8_then 49 = .ok (.getfield 19, 3) := by decide +kernel
theorem dX8_then_52 : decode cX8_then 52 = .ok (.iload_n 1, 1) := by decide +kernel
theorem dX8_then_53 : decode cX8_then 53 = .ok (.iconst 0, 1) := by decide +kernel
theorem dX8_then_54 : decode cX8_then 54 = .ok (.invokevirtual 198, 3) := by decide +kernel
theorem dX8_then_57 : decode cX8_then 57 = .ok (.aload_n 0, 1) := by decide +kernel
theorem dX8_then_58 : decode cX8_then 58 = .ok (.getfield 19, 3) := by decide +kernel
theorem dX8_then_61 : decode cX8_then 61 = .ok (.iload_n 2, 1) := by decide +kernel
theorem dX8_then_62 : decode cX8_then 62 = .ok (.iload_n 3, 1) := by decide +kernel
theorem dX8_then_63 : decode cX8_then 63 = .ok (.invokevirtual 92, 3) := by decide +kernel
theorem dX8_then_66 : decode cX8_then 66 = .ok (.ireturn, 1) := by decide +kernel
theorem dX8_keep_0 : decode cX8_keep 0 = .ok (.aload_n 0, 1) := by decide +kernel
theorem dX8_keep_1 : decode cX8_keep 1 = .ok (.getfield 10, 3) := by decide +kernel
theorem dX8_keep_4 : decode cX8_keep 4 = .ok (.iload_n 1, 1) := by decide +kernel
theorem dX8_keep_5 : decode cX8_keep 5 = .ok (.invokevirtual 89, 3) := by decide +kernel
theorem dX8_keep_8 : decode cX8_keep 8 = .ok (.ifCond .eq 20, 3) := by decide +kernel
theorem dX8_keep_11 : decode cX8_keep 11 = .ok (.iload_n 2, 1) := by decide +kernel
theorem dX8_keep_12 : decode cX8_keep 12 = .ok (.invokestatic 54, 3) := by decide +kernel
theorem dX8_keep_15 : decode cX8_keep 15 = .ok (.ifCond .eq 13, 3) := by decide +kernel
theorem dX8_keep_18 : decode cX8_keep 18 = .ok (.iload_n 3, 1) := by decide +kernel
theorem dX8_keep_19 : decode cX8_keep 19 = .ok (.iconst 1, 1) := by decide +kernel
theorem dX8_keep_20 : decode cX8_keep 20 = .ok (.bipush 20, 2) := by decide +kernel
theorem dX8_keep_22 : decode cX8_keep 22 = .ok (.invokestatic 58, 3) := by decide +kernel
theorem dX8_keep_25 : decode cX8_keep 25 = .ok (.ifCond .ne 9, 3) := by decide +kernel
theorem dX8_keep_28 : decode cX8_keep 28 = .ok (.aload_n 0, 1) := by decide +kernel
theorem dX8_keep_29 : decode cX8_keep 29 = .ok (.iconst 1, 1) := by decide +kernel
theorem dX8_keep_30 : decode cX8_keep 30 = .ok (.invokevirtual 62, 3) := by decide +kernel
theorem dX8_keep_33 : decode cX8_keep 33 = .ok (.ireturn, 1) := by decide +kernel
theorem dX8_keep_34 : decode cX8_keep 34 = .ok (.iconst 0, 1) := by decide +kernel
theorem dX8_keep_35 : decode cX8_keep 35 = .ok (.istore 4, 2) := by decide +kernel
theorem dX8_keep_37 : decode cX8_keep 37 = .ok (.ldc 212, 2) := by decide +kernel
theorem dX8_keep_39 : decode cX8_keep 39 = .ok (.istore 5, 2) := by decide +kernel
theorem dX8_keep_41 : decode cX8_keep 41 = .ok (.iconst 0, 1) := by decide +kernel
theorem dX8_keep_42 : decode cX8_keep 42 = .ok (.istore 6, 2) := by decide +kernel
theorem dX8_keep_44 : decode cX8_keep 44 = .ok (.iload 6, 2) := by decide +kernel
theorem dX8_keep_46 : decode cX8_keep 46 = .ok (.bipush 9, 2) := by decide +kernel
theorem dX8_keep_48 : decode cX8_keep 48 = .ok (.if_icmp .gt 80, 3) := by decide +kernel
theorem dX8_keep_51 : decode cX8_keep 51 = .ok (.aload_n 0, 1) := by decide +kernel
theorem dX8_keep_52 : decode cX8_keep 52 = .ok (.getfield 19, 3) := by decide +kernel
theorem dX8_keep_55 : decode cX8_keep 55 = .ok (.aload_n 0, 1) := by decide +kernel
theorem dX8_keep_56 : decode cX8_keep 56 = .ok (.getfield 10, 3) := by decide +kernel
theorem dX8_keep_59 : decode cX8_keep 59 = .ok (.invokevirtual 208, 3) := by decide +kernel
theorem dX8_keep_62 : decode cX8_keep 62 = .ok (.aload_n 0, 1) := by decide +kernel
theorem dX8_keep_63 : decode cX8_keep 63 = .ok (.getfield 19, 3) := by decide +kernel
theorem dX8_keep_66 : decode cX8_keep 66 = .ok (.getfield 79, 3) := by decide +kernel
theorem dX8_keep_69 : decode cX8_keep 69 = .ok (.iload_n 1, 1) := by decide +kernel
theorem dX8_keep_70 : decode cX8_keep 70 = .ok (.aaload, 1) := by decide +kernel
theorem dX8_keep_71 : decode cX8_keep 71 = .ok (.getfield 213, 3) := by decide +kernel
theorem dX8_keep_74 : decode cX8_keep 74 = .ok (.iload_n 2, 1) := by decide +kernel
theorem dX8_keep_75 : decode cX8_keep 75 = .ok (.iload 6, 2) := by decide +kernel
theorem dX8_keep_77 : decode cX8_keep 77 = .ok (.iastore, 1) := by decide +kernel
theorem dX8_keep_78 : decode cX8_keep 78 = .ok (.aload_n 0, 1) := by decide +kernel
theorem dX8_keep_79 : decode cX8_keep 79 = .ok (.getfield 19, 3) := by decide +kernel
theorem dX8_keep_82 : decode cX8_keep 82 = .ok (.iload_n 3, 1) := by decide +kernel
theorem dX8_keep_83 : decode cX8_keep 83 = .ok (.iconst 0, 1) := by decide +kernel
theorem dX8_keep_84 : decode cX8_keep 84 = .ok (.invokevirtual 198, 3) := by decide +kernel
theorem dX8_keep_87 : decode cX8_keep 87 = .ok (.aload_n 0, 1) := by decide +kernel
theorem dX8_keep_88 : decode cX8_keep 88 = .ok (.getfield 19, 3) := by decide +kernel
theorem dX8_keep_91 : decode cX8_keep 91 = .ok (.getfield 79, 3) := by decide +kernel
theorem dX8_keep_94 : decode cX8_keep 94 = .ok (.iload_n 1, 1) := by decide +kernel
theorem dX8_keep_95 : decode cX8_keep 95 = .ok (.aaload, 1) := by decide +kernel
theorem dX8_keep_96 : decode cX8_keep 96 = .ok (.getfield 103, 3) := by decide +kernel
theorem dX8_keep_99 : decode cX8_keep 99 = .ok (.iload 5, 2) := by decide +kernel
theorem dX8_keep_101 : decode cX8_keep 101 = .ok (.if_icmp .le 21, 3) := by decide +kernel
theorem dX8_keep_104 : decode cX8_keep 104 = .ok (.aload_n 0, 1) := by decide +kernel
theorem dX8_keep_105 : decode cX8_keep 105 = .ok (.getfield 19, 3) := by decide +kernel
theorem dX8_keep_108 : decode cX8_keep 108 = .ok (.getfield 79, 3) := by decide +kernel
theorem dX8_keep_111 : decode cX8_keep 111 = .ok (.iload_n 1, 1) := by decide +kernel
theorem dX8_keep_112 : decode cX8_keep 112 = .ok (.aaload, 1) := by decide +kernel
theorem dX8_keep_113 : decode cX8_keep 113 = .ok (.getfield 103, 3) := by decide +kernel
theorem dX8_keep_116 : decode cX8_keep 116 = .ok (.istore 5, 2) := by decide +kernel
theorem dX8_keep_118 : decode cX8_keep 118 = .ok (.iload 6, 2) := by decide +kernel
theorem dX8_keep_120 : decode cX8_keep 120 = .ok (.istore 4, 2) := by decide +kernel
theorem dX8_keep_122 : decode cX8_keep 122 = .ok (.iinc 6 1, 3) := by decide +kernel
theorem dX8_keep_125 : decode cX8_keep 125 = .ok (.goto (-81), 3) := by decide +kernel
theorem dX8_keep_128 : decode cX8_keep 128 = .ok (.iload 4, 2) := by decide +kernel
theorem dX8_keep_130 : decode cX8_keep 130 = .ok (.ireturn, 1) := by decide +kernel
theorem dX8_range_0 : decode cX8_range 0 = .ok (.aload_n 0, 1) := by decide +kernel
theorem dX8_range_1 : decode cX8_range 1 = .ok (.getfield 10, 3) := by decide +kernel
theorem dX8_range_4 : decode cX8_range 4 = .ok (.iload_n 1, 1) := by decide +kernel
theorem dX8_range_5 : decode cX8_range 5 = .ok (.invokevirtual 89, 3) := by decide +kernel
theorem dX8_range_8 : decode cX8_range 8 = .ok (.ifCond .eq 12, 3) := by decide +kernel
theorem dX8_range_11 : decode cX8_range 11 = .ok (.iload_n 2, 1) := by decide +kernel
theorem dX8_range_12 : decode cX8_range 12 = .ok (.iconst 1, 1) := by decide +kernel
theorem dX8_range_13 : decode cX8_range 13 = .ok (.iconst 5, 1) := by decide +kernel
theorem dX8_range_14 : decode cX8_range 14 = .ok (.invokestatic 58, 3) := by decide +kernel
theorem dX8_range_17 : decode cX8_range 17 = .ok (.ifCond .ne 9, 3) := by decide +kernel
theorem dX8_range_20 : decode cX8_range 20 = .ok (.aload_n 0, 1) := by decide +kernel
theorem dX8_range_21 : decode cX8_range 21 = .ok (.iconst 1, 1) := by decide +kernel
theorem dX8_range_22 : decode cX8_range 22 = .ok (.invokevirtual 62, 3) := by decide +kernel
theorem dX8_range_25 : decode cX8_range 25 = .ok (.ireturn, 1) := by decide +kernel
theorem dX8_range_26 : decode cX8_range 26 = .ok (.iconst 0, 1) := by decide +kernel
theorem dX8_range_27 : decode cX8_range 27 = .ok (.istore_n 3, 1) := by decide +kernel
theorem dX8_range_28 : decode cX8_range 28 = .ok (.ldc 212, 2) := by decide +kernel
theorem dX8_range_30 : decode cX8_range 30 = .ok (.istore 4, 2) := by decide +kernel
theorem dX8_range_32 : decode cX8_range 32 = .ok (.iconst 0, 1) := by decide +kernel
theorem dX8_range_33 : decode cX8_range 33 = .ok (.istore 5, 2) := by decide +kernel
theorem dX8_range_35 : decode cX8_range 35 = .ok (.iload 5, 2) := by decide +kernel
theorem dX8_range_37 : decode cX8_range 37 = .ok (.bipush 63, 2) := by decide +kernel
theorem dX8_range_39 : decode cX8_range 39 = .ok (.if_icmp .gt 102, 3) := by decide +kernel
theorem dX8_range_42 : decode cX8_range 42 = .ok (.aload_n 0, 1) := by decide +kernel
theorem dX8_range_43 : decode cX8_range 43 = .ok (.getfield 19, 3) := by decide +kernel
theorem dX8_range_46 : decode cX8_range 46 = .ok (.aload_n 0, 1) := by decide +kernel
theorem dX8_range_47 : decode cX8_range 47 = .ok (.getfield 10, 3) := by decide +kernel
theorem dX8_range_50 : decode cX8_range 50 = .ok (.invokevirtual 208, 3) := by decide +kernel
theorem dX8_range_53 : decode cX8_range 53 = .ok (.aload_n 0, 1) := by decide +kernel
theorem dX8_range_54 : decode cX8_range 54 = .ok (.getfield 19, 3) := by decide +kernel
theorem dX8_range_57 : decode cX8_range 57 = .ok (.getfield 79, 3) := by decide +kernel
theorem dX8_range_60 : decode cX8_range 60 = .ok (.iload_n 1, 1) := by decide +kernel
theorem dX8_range_61 : decode cX8_range 61 = .ok (.aaload, 1) := by decide +kernel
theorem dX8_range_62 : decode cX8_range 62 = .ok (.iload 5, 2) := by decide +kernel
theorem dX8_range_64 : decode cX8_range 64 = .ok (.invokevirtual 216, 3) := by decide +kernel
theorem dX8_range_67 : decode cX8_range 67 = .ok (.aload_n 0, 1) := by decide +kernel
theorem dX8_range_68 : decode cX8_range 68 = .ok (.getfield 19, 3) := by decide +kernel
theorem dX8_range_71 : decode cX8_range 71 = .ok (.iload_n 2, 1) := by decide +kernel
theorem dX8_range_72 : decode cX8_range 72 = .ok (.iconst 0, 1) := by decide +kernel
theorem dX8_range_73 : decode cX8_range 73 = .ok (.invokevirtual 198, 3) := by decide +kernel
theorem dX8_range_76 : decode cX8_range 76 = .ok (.aload_n 0, 1) := by decide +kernel
theorem dX8_range_77 : decode cX8_range 77 = .ok (.getfield 19, 3) := by decide +kernel
theorem dX8_range_80 : decode cX8_range 80 = .ok (.getfield 79, 3) := by decide +kernel
theorem dX8_range_83 : decode cX8_range 83 = .ok (.iload_n 1, 1) := by decide +kernel
theorem dX8_range_84 : decode cX8_range 84 = .ok (.aaload, 1) := by decide +kernel
theorem dX8_range_85 : decode cX8_range 85 = .ok (.getfield 103, 3) := by decide +kernel
theorem dX8_range_88 : decode cX8_range 88 = .ok (.istore 6, 2) := by decide +kernel
theorem dX8_range_90 : decode cX8_range 90 = .ok (.iload 5, 2) := by decide +kernel
theorem dX8_range_92 : decode cX8_range 92 = .ok (.invokestatic 220, 3) := by decide +kernel
theorem dX8_range_95 : decode cX8_range 95 = .ok (.iload_n 3, 1) := by decide +kernel
theorem dX8_range_96 : decode cX8_range 96 = .ok (.invokestatic 220, 3) := by decide +kernel
theorem dX8_range_99 : decode cX8_range 99 = .ok (.if_icmp .ge 7, 3) := by decide +kernel
theorem dX8_range_102 : decode cX8_range 102 = .ok (.iconst 1, 1) := by decide +kernel
theorem dX8_range_103 : decode cX8_range 103 = .ok (.goto 4, 3) := by decide +kernel
theorem dX8_range_106 : decode cX8_range 106 = .ok (.iconst 0, 1) := by decide +kernel
theorem dX8_range_107 : decode cX8_range 107 = .ok (.istore 7, 2) := by decide +kernel
theorem dX8_range_109 : decode cX8_range 109 = .ok (.iload 6, 2) := by decide +kernel
theorem dX8_range_111 : decode cX8_range 111 = .ok (.iload 4, 2) := by decide +kernel
theorem dX8_range_113 : decode cX8_range 113 = .ok (.if_icmp .gt 15, 3) := by decide +kernel
theorem dX8_range_116 : decode cX8_range 116 = .ok (.iload 6, 2) := by decide +kernel
theorem dX8_range_118 : decode cX8_range 118 = .ok (.iload 4, 2) := by decide +kernel
theorem dX8_range_120 : decode cX8_range 120 = .ok (.if_icmp .ne 15, 3) := by decide +kernel
theorem dX8_range_123 : decode cX8_range 123 = .ok (.iload 7, 2) := by decide +kernel
theorem dX8_range_125 : decode cX8_range 125 = .ok (.ifCond .eq 10, 3) := by decide +kernel
theorem dX8_range_128 : decode cX8_range 128 = .ok (.iload 6, 2) := by decide +kernel
theorem dX8_range_130 : decode cX8_range 130 = .ok (.istore 4, 2) := by decide +kernel
theorem dX8_range_132 : decode cX8_range 132 = .ok (.iload 5, 2) := by decide +kernel
theorem dX8_range_134 : decode cX8_range 134 = .ok (.istore_n 3, 1) := by decide +kernel
theorem dX8_range_135 : decode cX8_range 135 = .ok (.iinc 5 1, 3) := by decide +kernel
theorem dX8_range_138 : decode cX8_range 138 = .ok (.goto (-103), 3) := by decide +kernel
theorem dX8_range_141 : decode cX8_range 141 = .ok (.iload_n 3, 1) := by decide +kernel
theorem dX8_range_142 : decode cX8_range 142 = .ok (.ireturn, 1) := by decide +kernel
theorem dX8_turn_0 : decode cX8_turn 0 = .ok (.aload_n 0, 1) := by decide +kernel
theorem dX8_turn_1 : decode cX8_turn 1 = .ok (.getfield 10, 3) := by decide +kernel
theorem dX8_turn_4 : decode cX8_turn 4 = .ok (.iload_n 1, 1) := by decide +kernel
theorem dX8_turn_5 : decode cX8_turn 5 = .ok (.invokevirtual 89, 3) := by decide +kernel
theorem dX8_turn_8 : decode cX8_turn 8 = .ok (.ifCond .eq 13, 3) := by decide +kernel
theorem dX8_turn_11 : decode cX8_turn 11 = .ok (.iload_n 2, 1) := by decide +kernel
theorem dX8_turn_12 : decode cX8_turn 12 = .ok (.iconst 1, 1) := by decide +kernel
theorem dX8_turn_13 : decode cX8_turn 13 = .ok (.bipush 20, 2) := by decide +kernel
theorem dX8_turn_15 : decode cX8_turn 15 = .ok (.invokestatic 58, 3) := by decide +kernel
theorem dX8_turn_18 : decode cX8_turn 18 = .ok (.ifCond .ne 9, 3) := by decide +kernel
theorem dX8_turn_21 : decode cX8_turn 21 = .ok (.aload_n 0, 1) := by decide +kernel
theorem dX8_turn_22 : decode cX8_turn 22 = .ok (.iconst 1, 1) := by decide +kernel
theorem dX8_turn_23 : decode cX8_turn 23 = .ok (.invokevirtual 62, 3) := by decide +kernel
theorem dX8_turn_26 : decode cX8_turn 26 = .ok (.ireturn, 1) := by decide +kernel
theorem dX8_turn_27 : decode cX8_turn 27 = .ok (.iconst 0, 1) := by decide +kernel
theorem dX8_turn_28 : decode cX8_turn 28 = .ok (.istore_n 3, 1) := by decide +kernel
theorem dX8_turn_29 : decode cX8_turn 29 = .ok (.ldc 212, 2) := by decide +kernel
theorem dX8_turn_31 : decode cX8_turn 31 = .ok (.istore 4, 2) := by decide +kernel
theorem dX8_turn_33 : decode cX8_turn 33 = .ok (.iconst 0, 1) := by decide +kernel
theorem dX8_turn_34 : decode cX8_turn 34 = .ok (.istore 5, 2) := by decide +kernel
theorem dX8_turn_36 : decode cX8_turn 36 = .ok (.iload 5, 2) := by decide +kernel
theorem dX8_turn_38 : decode cX8_turn 38 = .ok (.aload_n 0, 1) := by decide +kernel
theorem dX8_turn_39 : decode cX8_turn 39 = .ok (.getfield 10, 3) := by decide +kernel
theorem dX8_turn_42 : decode cX8_turn 42 = .ok (.getfield 76, 3) := by decide +kernel
theorem dX8_turn_45 : decode cX8_turn 45 = .ok (.if_icmp .ge 81, 3) := by decide +kernel
theorem dX8_turn_48 : decode cX8_turn 48 = .ok (.aload_n 0, 1) := by decide +kernel
theorem dX8_turn_49 : decode cX8_turn 49 = .ok (.getfield 19, 3) := by decide +kernel
theorem dX8_turn_52 : decode cX8_turn 52 = .ok (.aload_n 0, 1) := by decide +kernel
theorem dX8_turn_53 : decode cX8_turn 53 = .ok (.getfield 10, 3) := by decide +kernel
theorem dX8_turn_56 : decode cX8_turn 56 = .ok (.invokevirtual 208, 3) := by decide +kernel
theorem dX8_turn_59 : decode cX8_turn 59 = .ok (.aload_n 0, 1) := by decide +kernel
theorem dX8_turn_60 : decode cX8_turn 60 = .ok (.getfield 19, 3) := by decide +kernel
theorem dX8_turn_63 : decode cX8_turn 63 = .ok (.aload_n 0, 1) := by decide +kernel
theorem dX8_turn_64 : decode cX8_turn 64 = .ok (.getfield 10, 3) := by decide +kernel
theorem dX8_turn_67 : decode cX8_turn 67 = .ok (.iload 5, 2) := by decide +kernel
theorem dX8_turn_69 : decode cX8_turn 69 = .ok (.invokevirtual 225, 3) := by decide +kernel
theorem dX8_turn_72 : decode cX8_turn 72 = .ok (.aload_n 0, 1) := by decide +kernel
theorem dX8_turn_73 : decode cX8_turn 73 = .ok (.getfield 19, 3) := by decide +kernel
theorem dX8_turn_76 : decode cX8_turn 76 = .ok (.iload_n 2, 1) := by decide +kernel
theorem dX8_turn_77 : decode cX8_turn 77 = .ok (.iconst 0, 1) := by decide +kernel
theorem dX8_turn_78 : decode cX8_turn 78 = .ok (.invokevirtual 198, 3) := by decide +kernel
theorem dX8_turn_81 : decode cX8_turn 81 = .ok (.aload_n 0, 1) := by decide +kernel
theorem dX8_turn_82 : decode cX8_turn 82 = .ok (.getfield 19, 3) := by decide +kernel
theorem dX8_turn_85 : decode cX8_turn 85 = .ok (.getfield 79, 3) := by decide +kernel
theorem dX8_turn_88 : decode cX8_turn 88 = .ok (.iload_n 1, 1) := by decide +kernel
theorem dX8_turn_89 : decode cX8_turn 89 = .ok (.iload 5, 2) := by decide +kernel
theorem dX8_turn_91 : decode cX8_turn 91 = .ok (.iadd, 1) := by decide +kernel
theorem dX8_turn_92 : decode cX8_turn 92 = .ok (.aload_n 0, 1) := by decide +kernel
theorem dX8_turn_93 : decode cX8_turn 93 = .ok (.getfield 10, 3) := by decide +kernel
theorem dX8_turn_96 : decode cX8_turn 96 = .ok (.getfield 76, 3) := by decide +kernel
theorem dX8_turn_99 : decode cX8_turn 99 = .ok (.irem, 1) := by decide +kernel
theorem dX8_turn_100 : decode cX8_turn 100 = .ok (.aaload, 1) := by decide +kernel
theorem dX8_turn_101 : decode cX8_turn 101 = .ok (.getfield 103, 3) := by decide +kernel
theorem dX8_turn_104 : decode cX8_turn 104 = .ok (.istore 6, 2) := by decide +kernel
theorem dX8_turn_106 : decode cX8_turn 106 = .ok (.iload 6, 2) := by decide +kernel
theorem dX8_turn_108 : decode cX8_turn 108 = .ok (.iload 4, 2) := by decide +kernel
theorem dX8_turn_110 : decode cX8_turn 110 = .ok (.if_icmp .le 10, 3) := by decide +kernel
theorem dX8_turn_113 : decode cX8_turn 113 = .ok (.iload 6, 2) := by decide +kernel
theorem dX8_turn_115 : decode cX8_turn 115 = .ok (.istore 4, 2) := by decide +kernel
theorem dX8_turn_117 : decode cX8_turn 117 = .ok (.iload 5, 2) := by decide +kernel
theorem dX8_turn_119 : decode cX8_turn 119 = .ok (.istore_n 3, 1) := by decide +kernel
theorem dX8_turn_120 : decode cX8_turn 120 = .ok (.iinc 5 1, 3) := by decide +kernel
theorem dX8_turn_123 : decode cX8_turn 123 = .ok (.goto (-87), 3) := by decide +kernel
theorem dX8_turn_126 : decode cX8_turn 126 = .ok (.iload_n 3, 1) := by decide +kernel
theorem dX8_turn_127 : decode cX8_turn 127 = .ok (.ireturn, 1) := by decide +kernel
theorem dX8_out_0 : decode cX8_out 0 = .ok (.aload_n 0, 1) := by decide +kernel
theorem dX8_out_1 : decode cX8_out 1 = .ok (.getfield 10, 3) := by decide +kernel
theorem dX8_out_4 : decode cX8_out 4 = .ok (.iload_n 1, 1) := by decide +kernel
theorem dX8_out_5 : decode cX8_out 5 = .ok (.invokevirtual 89, 3) := by decide +kernel
theorem dX8_out_8 : decode cX8_out 8 = .ok (.ifCond .eq 10, 3) := by decide +kernel
theorem dX8_out_11 : decode cX8_out 11 = .ok (.iload_n 2, 1) := by decide +kernel
theorem dX8_out_12 : decode cX8_out 12 = .ok (.invokestatic 54, 3) := by decide +kernel
theorem dX8_out_15 : decode cX8_out 15 = .ok (.ifCond .ne 9, 3) := by decide +kernel
theorem dX8_out_18 : decode cX8_out 18 = .ok (.aload_n 0, 1) := by decide +kernel
theorem dX8_out_19 : decode cX8_out 19 = .ok (.iconst 1, 1) := by decide +kernel
theorem dX8_out_20 : decode cX8_out 20 = .ok (.invokevirtual 62, 3) := by decide +kernel
theorem dX8_out_23 : decode cX8_out 23 = .ok (.ireturn, 1) := by decide +kernel
theorem dX8_out_24 : decode cX8_out 24 = .ok (.aload_n 0, 1) := by decide +kernel
theorem dX8_out_25 : decode cX8_out 25 = .ok (.getfield 10, 3) := by decide +kernel
theorem dX8_out_28 : decode cX8_out 28 = .ok (.iload_n 1, 1) := by decide +kernel
theorem dX8_out_29 : decode cX8_out 29 = .ok (.invokevirtual 229, 3) := by decide +kernel
theorem dX8_out_32 : decode cX8_out 32 = .ok (.istore_n 3, 1) := by decide +kernel
theorem dX8_out_33 : decode cX8_out 33 = .ok (.iload_n 3, 1) := by decide +kernel
theorem dX8_out_34 : decode cX8_out 34 = .ok (.ifCond .lt 25, 3) := by decide +kernel
theorem dX8_out_37 : decode cX8_out 37 = .ok (.iload_n 3, 1) := by decide +kernel
theorem dX8_out_38 : decode cX8_out 38 = .ok (.iload_n 1, 1) := by decide +kernel
theorem dX8_out_39 : decode cX8_out 39 = .ok (.if_icmp .eq 20, 3) := by decide +kernel
theorem dX8_out_42 : decode cX8_out 42 = .ok (.aload_n 0, 1) := by decide +kernel
theorem dX8_out_43 : decode cX8_out 43 = .ok (.getfield 10, 3) := by decide +kernel
theorem dX8_out_46 : decode cX8_out 46 = .ok (.getfield 79, 3) := by decide +kernel
theorem dX8_out_49 : decode cX8_out 49 = .ok (.iload_n 3, 1) := by decide +kernel
theorem dX8_out_50 : decode cX8_out 50 = .ok (.aaload, 1) := by decide +kernel
theorem dX8_out_51 : decode cX8_out 51 = .ok (.getfield 232, 3) := by decide +kernel
theorem dX8_out_54 : decode cX8_out 54 = .ok (.iload_n 2, 1) := by decide +kernel
theorem dX8_out_55 : decode cX8_out 55 = .ok (.iaload, 1) := by decide +kernel
theorem dX8_out_56 : decode cX8_out 56 = .ok (.ifCond .ne 9, 3) := by decide +kernel
theorem dX8_out_59 : decode cX8_out 59 = .ok (.aload_n 0, 1) := by decide +kernel
theorem dX8_out_60 : decode cX8_out 60 = .ok (.iconst 3, 1) := by decide +kernel
theorem dX8_out_61 : decode cX8_out 61 = .ok (.invokevirtual 62, 3) := by decide +kernel
theorem dX8_out_64 : decode cX8_out 64 = .ok (.ireturn, 1) := by decide +kernel
theorem dX8_out_65 : decode cX8_out 65 = .ok (.aload_n 0, 1) := by decide +kernel
theorem dX8_out_66 : decode cX8_out 66 = .ok (.getfield 19, 3) := by decide +kernel
theorem dX8_out_69 : decode cX8_out 69 = .ok (.aload_n 0, 1) := by decide +kernel
theorem dX8_out_70 : decode cX8_out 70 = .ok (.getfield 10, 3) := by decide +kernel
theorem dX8_out_73 : decode cX8_out 73 = .ok (.invokevirtual 208, 3) := by decide +kernel
theorem dX8_out_76 : decode cX8_out 76 = .ok (.aload_n 0, 1) := by decide +kernel
theorem dX8_out_77 : decode cX8_out 77 = .ok (.getfield 19, 3) := by decide +kernel
theorem dX8_out_80 : decode cX8_out 80 = .ok (.invokevirtual 235, 3) := by decide +kernel
theorem dX8_out_83 : decode cX8_out 83 = .ok (.aload_n 0, 1) := by decide +kernel
theorem dX8_out_84 : decode cX8_out 84 = .ok (.getfield 19, 3) := by decide +kernel
theorem dX8_out_87 : decode cX8_out 87 = .ok (.getfield 79, 3) := by decide +kernel
theorem dX8_out_90 : decode cX8_out 90 = .ok (.iload_n 1, 1) := by decide +kernel
theorem dX8_out_91 : decode cX8_out 91 = .ok (.aaload, 1) := by decide +kernel
theorem dX8_out_92 : decode cX8_out 92 = .ok (.getfield 103, 3) := by decide +kernel
theorem dX8_out_95 : decode cX8_out 95 = .ok (.istore 4, 2) := by decide +kernel
theorem dX8_out_97 : decode cX8_out 97 = .ok (.aload_n 0, 1) := by decide +kernel
theorem dX8_out_98 : decode cX8_out 98 = .ok (.getfield 19, 3) := by decide +kernel
theorem dX8_out_101 : decode cX8_out 101 = .ok (.aload_n 0, 1) := by decide +kernel
theorem dX8_out_102 : decode cX8_out 102 = .ok (.getfield 10, 3) := by decide +kernel
theorem dX8_out_105 : decode cX8_out 105 = .ok (.invokevirtual 208, 3) := by decide +kernel
theorem dX8_out_108 : decode cX8_out 108 = .ok (.aload_n 0, 1) := by decide +kernel
theorem dX8_out_109 : decode cX8_out 109 = .ok (.getfield 19, 3) := by decide +kernel
theorem dX8_out_112 : decode cX8_out 112 = .ok (.iload_n 1, 1) := by decide +kernel
theorem dX8_out_113 : decode cX8_out 113 = .ok (.iload_n 3, 1) := by decide +kernel
theorem dX8_out_114 : decode cX8_out 114 = .ok (.iload_n 2, 1) := by decide +kernel
theorem dX8_out_115 : decode cX8_out 115 = .ok (.invokevirtual 238, 3) := by decide +kernel
theorem dX8_out_118 : decode cX8_out 118 = .ok (.aload_n 0, 1) := by decide +kernel
theorem dX8_out_119 : decode cX8_out 119 = .ok (.getfield 19, 3) := by decide +kernel
theorem dX8_out_122 : decode cX8_out 122 = .ok (.invokevirtual 235, 3) := by decide +kernel
theorem dX8_out_125 : decode cX8_out 125 = .ok (.aload_n 0, 1) := by decide +kernel
theorem dX8_out_126 : decode cX8_out 126 = .ok (.getfield 19, 3) := by decide +kernel
theorem dX8_out_129 : decode cX8_out 129 = .ok (.getfield 79, 3) := by decide +kernel
theorem dX8_out_132 : decode cX8_out 132 = .ok (.iload_n 1, 1) := by decide +kernel
theorem dX8_out_133 : decode cX8_out 133 = .ok (.aaload, 1) := by decide +kernel
theorem dX8_out_134 : decode cX8_out 134 = .ok (.getfield 103, 3) := by decide +kernel
theorem dX8_out_137 : decode cX8_out 137 = .ok (.iload 4, 2) := by decide +kernel
theorem dX8_out_139 : decode cX8_out 139 = .ok (.isub, 1) := by decide +kernel
theorem dX8_out_140 : decode cX8_out 140 = .ok (.ireturn, 1) := by decide +kernel
theorem dX8_joined_0 : decode cX8_joined 0 = .ok (.aload_n 0, 1) := by decide +kernel
theorem dX8_joined_1 : decode cX8_joined 1 = .ok (.getfield 10, 3) := by decide +kernel
theorem dX8_joined_4 : decode cX8_joined 4 = .ok (.iload_n 1, 1) := by decide +kernel
theorem dX8_joined_5 : decode cX8_joined 5 = .ok (.invokevirtual 89, 3) := by decide +kernel
theorem dX8_joined_8 : decode cX8_joined 8 = .ok (.ifCond .eq 26, 3) := by decide +kernel
theorem dX8_joined_11 : decode cX8_joined 11 = .ok (.aload_n 0, 1) := by decide +kernel
theorem dX8_joined_12 : decode cX8_joined 12 = .ok (.getfield 10, 3) := by decide +kernel
theorem dX8_joined_15 : decode cX8_joined 15 = .ok (.iload_n 1, 1) := by decide +kernel
theorem dX8_joined_16 : decode cX8_joined 16 = .ok (.iconst 1, 1) := by decide +kernel
theorem dX8_joined_17 : decode cX8_joined 17 = .ok (.iadd, 1) := by decide +kernel
theorem dX8_joined_18 : decode cX8_joined 18 = .ok (.invokevirtual 89, 3) := by decide +kernel
theorem dX8_joined_21 : decode cX8_joined 21 = .ok (.ifCond .eq 13, 3) := by decide +kernel
theorem dX8_joined_24 : decode cX8_joined 24 = .ok (.iload_n 2, 1) := by decide +kernel
theorem dX8_joined_25 : decode cX8_joined 25 = .ok (.iconst 1, 1) := by decide +kernel
theorem dX8_joined_26 : decode cX8_joined 26 = .ok (.bipush 20, 2) := by decide +kernel
theorem dX8_joined_28 : decode cX8_joined 28 = .ok (.invokestatic 58, 3) := by decide +kernel
theorem dX8_joined_31 : decode cX8_joined 31 = .ok (.ifCond .ne 9, 3) := by decide +kernel
theorem dX8_joined_34 : decode cX8_joined 34 = .ok (.aload_n 0, 1) := by decide +kernel
theorem dX8_joined_35 : decode cX8_joined 35 = .ok (.iconst 1, 1) := by decide +kernel
theorem dX8_joined_36 : decode cX8_joined 36 = .ok (.invokevirtual 62, 3) := by decide +kernel
theorem dX8_joined_39 : decode cX8_joined 39 = .ok (.ireturn, 1) := by decide +kernel
theorem dX8_joined_40 : decode cX8_joined 40 = .ok (.aload_n 0, 1) := by decide +kernel
theorem dX8_joined_41 : decode cX8_joined 41 = .ok (.getfield 19, 3) := by decide +kernel
theorem dX8_joined_44 : decode cX8_joined 44 = .ok (.aload_n 0, 1) := by decide +kernel
theorem dX8_joined_45 : decode cX8_joined 45 = .ok (.getfield 10, 3) := by decide +kernel
theorem dX8_joined_48 : decode cX8_joined 48 = .ok (.invokevirtual 208, 3) := by decide +kernel
theorem dX8_joined_51 : decode cX8_joined 51 = .ok (.aload_n 0, 1) := by decide +kernel
theorem dX8_joined_52 : decode cX8_joined 52 = .ok (.getfield 19, 3) := by decide +kernel
theorem dX8_joined_55 : decode cX8_joined 55 = .ok (.iload_n 2, 1) := by decide +kernel
theorem dX8_joined_56 : decode cX8_joined 56 = .ok (.iconst 0, 1) := by decide +kernel
theorem dX8_joined_57 : decode cX8_joined 57 = .ok (.invokevirtual 198, 3) := by decide +kernel
theorem dX8_joined_60 : decode cX8_joined 60 = .ok (.aload_n 0, 1) := by decide +kernel
theorem dX8_joined_61 : decode cX8_joined 61 = .ok (.getfield 19, 3) := by decide +kernel
theorem dX8_joined_64 : decode cX8_joined 64 = .ok (.getfield 79, 3) := by decide +kernel
theorem dX8_joined_67 : decode cX8_joined 67 = .ok (.iload_n 1, 1) := by decide +kernel
theorem dX8_joined_68 : decode cX8_joined 68 = .ok (.aaload, 1) := by decide +kernel
theorem dX8_joined_69 : decode cX8_joined 69 = .ok (.getfield 103, 3) := by decide +kernel
theorem dX8_joined_72 : decode cX8_joined 72 = .ok (.aload_n 0, 1) := by decide +kernel
theorem dX8_joined_73 : decode cX8_joined 73 = .ok (.getfield 19, 3) := by decide +kernel
theorem dX8_joined_76 : decode cX8_joined 76 = .ok (.getfield 79, 3) := by decide +kernel
theorem dX8_joined_79 : decode cX8_joined 79 = .ok (.iload_n 1, 1) := by decide +kernel
theorem dX8_joined_80 : decode cX8_joined 80 = .ok (.iconst 1, 1) := by decide +kernel
theorem dX8_joined_81 : decode cX8_joined 81 = .ok (.iadd, 1) := by decide +kernel
theorem dX8_joined_82 : decode cX8_joined 82 = .ok (.aaload, 1) := by decide +kernel
theorem dX8_joined_83 : decode cX8_joined 83 = .ok (.getfield 103, 3) := by decide +kernel
theorem dX8_joined_86 : decode cX8_joined 86 = .ok (.iadd, 1) := by decide +kernel
theorem dX8_joined_87 : decode cX8_joined 87 = .ok (.istore_n 3, 1) := by decide +kernel
theorem dX8_joined_88 : decode cX8_joined 88 = .ok (.aload_n 0, 1) := by decide +kernel
theorem dX8_joined_89 : decode cX8_joined 89 = .ok (.getfield 19, 3) := by decide +kernel
theorem dX8_joined_92 : decode cX8_joined 92 = .ok (.aload_n 0, 1) := by decide +kernel
theorem dX8_joined_93 : decode cX8_joined 93 = .ok (.getfield 10, 3) := by decide +kernel
theorem dX8_joined_96 : decode cX8_joined 96 = .ok (.invokevirtual 208, 3) := by decide +kernel
theorem dX8_joined_99 : decode cX8_joined 99 = .ok (.aload_n 0, 1) := by decide +kernel
theorem dX8_joined_100 : decode cX8_joined 100 = .ok (.getfield 19, 3) := by decide +kernel
theorem dX8_joined_103 : decode cX8_joined 103 = .ok (.iload_n 1, 1) := by decide +kernel
theorem dX8_joined_104 : decode cX8_joined 104 = .ok (.invokevirtual 241, 3) := by decide +kernel
theorem dX8_joined_107 : decode cX8_joined 107 = .ok (.aload_n 0, 1) := by decide +kernel
theorem dX8_joined_108 : decode cX8_joined 108 = .ok (.getfield 19, 3) := by decide +kernel
theorem dX8_joined_111 : decode cX8_joined 111 = .ok (.iload_n 2, 1) := by decide +kernel
theorem dX8_joined_112 : decode cX8_joined 112 = .ok (.iconst 0, 1) := by decide +kernel
theorem dX8_joined_113 : decode cX8_joined 113 = .ok (.invokevirtual 198, 3) := by decide +kernel
theorem dX8_joined_116 : decode cX8_joined 116 = .ok (.aload_n 0, 1) := by decide +kernel
theorem dX8_joined_117 : decode cX8_joined 117 = .ok (.getfield 19, 3) := by decide +kernel
theorem dX8_joined_120 : decode cX8_joined 120 = .ok (.getfield 79, 3) := by decide +kernel
theorem dX8_joined_123 : decode cX8_joined 123 = .ok (.iload_n 1, 1) := by decide +kernel
theorem dX8_joined_124 : decode cX8_joined 124 = .ok (.aaload, 1) := by decide +kernel
theorem dX8_joined_125 : decode cX8_joined 125 = .ok (.getfield 103, 3) := by decide +kernel
theorem dX8_joined_128 : decode cX8_joined 128 = .ok (.iload_n 3, 1) := by decide +kernel
theorem dX8_joined_129 : decode cX8_joined 129 = .ok (.isub, 1) := by decide +kernel
theorem dX8_joined_130 : decode cX8_joined 130 = .ok (.ireturn, 1) := by decide +kernel
theorem dX8_walk_0 : decode cX8_walk 0 = .ok (.aload_n 0, 1) := by decide +kernel
theorem dX8_walk_1 : decode cX8_walk 1 = .ok (.getfield 10, 3) := by decide +kernel
theorem dX8_walk_4 : decode cX8_walk 4 = .ok (.iload_n 1, 1) := by decide +kernel
theorem dX8_walk_5 : decode cX8_walk 5 = .ok (.invokevirtual 128, 3) := by decide +kernel
theorem dX8_walk_8 : decode cX8_walk 8 = .ok (.ifCond .ne 9, 3) := by decide +kernel
theorem dX8_walk_11 : decode cX8_walk 11 = .ok (.aload_n 0, 1) := by decide +kernel
theorem dX8_walk_12 : decode cX8_walk 12 = .ok (.iconst 1, 1) := by decide +kernel
theorem dX8_walk_13 : decode cX8_walk 13 = .ok (.invokevirtual 62, 3) := by decide +kernel
theorem dX8_walk_16 : decode cX8_walk 16 = .ok (.ireturn, 1) := by decide +kernel
theorem dX8_walk_17 : decode cX8_walk 17 = .ok (.aload_n 0, 1) := by decide +kernel
theorem dX8_walk_18 : decode cX8_walk 18 = .ok (.getfield 10, 3) := by decide +kernel
theorem dX8_walk_21 : decode cX8_walk 21 = .ok (.getfield 131, 3) := by decide +kernel
theorem dX8_walk_24 : decode cX8_walk 24 = .ok (.iload_n 1, 1) := by decide +kernel
theorem dX8_walk_25 : decode cX8_walk 25 = .ok (.aaload, 1) := by decide +kernel
theorem dX8_walk_26 : decode cX8_walk 26 = .ok (.astore_n 2, 1) := by decide +kernel
theorem dX8_walk_27 : decode cX8_walk 27 = .ok (.aload_n 2, 1) := by decide +kernel
theorem dX8_walk_28 : decode cX8_walk 28 = .ok (.getfield 135, 3) := by decide +kernel
theorem dX8_walk_31 : decode cX8_walk 31 = .ok (.istore_n 3, 1) := by decide +kernel
theorem dX8_walk_32 : decode cX8_walk 32 = .ok (.iconst 0, 1) := by decide +kernel
theorem dX8_walk_33 : decode cX8_walk 33 = .ok (.istore 4, 2) := by decide +kernel
theorem dX8_walk_35 : decode cX8_walk 35 = .ok (.iload 4, 2) := by decide +kernel
theorem dX8_walk_37 : decode cX8_walk 37 = .ok (.aload_n 0, 1) := by decide +kernel
theorem dX8_walk_38 : decode cX8_walk 38 = .ok (.getfield 10, 3) := by decide +kernel
theorem dX8_walk_41 : decode cX8_walk 41 = .ok (.getfield 76, 3) := by decide +kernel
theorem dX8_walk_44 : decode cX8_walk 44 = .ok (.if_icmp .ge 47, 3) := by decide +kernel
theorem dX8_walk_47 : decode cX8_walk 47 = .ok (.iload_n 3, 1) := by decide +kernel
theorem dX8_walk_48 : decode cX8_walk 48 = .ok (.ifCond .eq 43, 3) := by decide +kernel
theorem dX8_walk_51 : decode cX8_walk 51 = .ok (.iload_n 3, 1) := by decide +kernel
theorem dX8_walk_52 : decode cX8_walk 52 = .ok (.aload_n 0, 1) := by decide +kernel
theorem dX8_walk_53 : decode cX8_walk 53 = .ok (.getfield 10, 3) := by decide +kernel
theorem dX8_walk_56 : decode cX8_walk 56 = .ok (.aload_n 0, 1) := by decide +kernel
theorem dX8_walk_57 : decode cX8_walk 57 = .ok (.getfield 10, 3) := by decide +kernel
theorem dX8_walk_60 : decode cX8_walk 60 = .ok (.aload_n 2, 1) := by decide +kernel
theorem dX8_walk_61 : decode cX8_walk 61 = .ok (.getfield 143, 3) := by decide +kernel
theorem dX8_walk_64 : decode cX8_walk 64 = .ok (.iload 4, 2) := by decide +kernel
theorem dX8_walk_66 : decode cX8_walk 66 = .ok (.invokevirtual 244, 3) := by decide +kernel
theorem dX8_walk_69 : decode cX8_walk 69 = .ok (.invokevirtual 247, 3) := by decide +kernel
theorem dX8_walk_72 : decode cX8_walk 72 = .ok (.iconst (-1), 1) := by decide +kernel
theorem dX8_walk_73 : decode cX8_walk 73 = .ok (.ixor, 1) := by decide +kernel
theorem dX8_walk_74 : decode cX8_walk 74 = .ok (.iand, 1) := by decide +kernel
theorem dX8_walk_75 : decode cX8_walk 75 = .ok (.istore_n 3, 1) := by decide +kernel
theorem dX8_walk_76 : decode cX8_walk 76 = .ok (.iload_n 3, 1) := by decide +kernel
theorem dX8_walk_77 : decode cX8_walk 77 = .ok (.ifCond .ne 8, 3) := by decide +kernel
theorem dX8_walk_80 : decode cX8_walk 80 = .ok (.iload 4, 2) := by decide +kernel
theorem dX8_walk_82 : decode cX8_walk 82 = .ok (.iconst 1, 1) := by decide +kernel
theorem dX8_walk_83 : decode cX8_walk 83 = .ok (.iadd, 1) := by decide +kernel
theorem dX8_walk_84 : decode cX8_walk 84 = .ok (.ireturn, 1) := by decide +kernel
theorem dX8_walk_85 : decode cX8_walk 85 = .ok (.iinc 4 1, 3) := by decide +kernel
theorem dX8_walk_88 : decode cX8_walk 88 = .ok (.goto (-53), 3) := by decide +kernel
theorem dX8_walk_91 : decode cX8_walk 91 = .ok (.iload_n 3, 1) := by decide +kernel
theorem dX8_walk_92 : decode cX8_walk 92 = .ok (.ifCond .ne 7, 3) := by decide +kernel
theorem dX8_walk_95 : decode cX8_walk 95 = .ok (.iconst 0, 1) := by decide +kernel
theorem dX8_walk_96 : decode cX8_walk 96 = .ok (.goto 8, 3) := by decide +kernel
theorem dX8_walk_99 : decode cX8_walk 99 = .ok (.aload_n 0, 1) := by decide +kernel
theorem dX8_walk_100 : decode cX8_walk 100 = .ok (.iconst 2, 1) := by decide +kernel
theorem dX8_walk_101 : decode cX8_walk 101 = .ok (.invokevirtual 62, 3) := by decide +kernel
theorem dX8_walk_104 : decode cX8_walk 104 = .ok (.ireturn, 1) := by decide +kernel
theorem dX8_voice_0 : decode cX8_voice 0 = .ok (.aload_n 0, 1) := by decide +kernel
theorem dX8_voice_1 : decode cX8_voice 1 = .ok (.getfield 10, 3) := by decide +kernel
theorem dX8_voice_4 : decode cX8_voice 4 = .ok (.iload_n 1, 1) := by decide +kernel
theorem dX8_voice_5 : decode cX8_voice 5 = .ok (.invokevirtual 89, 3) := by decide +kernel
theorem dX8_voice_8 : decode cX8_voice 8 = .ok (.ifCond .eq 12, 3) := by decide +kernel
theorem dX8_voice_11 : decode cX8_voice 11 = .ok (.iload_n 2, 1) := by decide +kernel
theorem dX8_voice_12 : decode cX8_voice 12 = .ok (.iconst 0, 1) := by decide +kernel
theorem dX8_voice_13 : decode cX8_voice 13 = .ok (.iconst 3, 1) := by decide +kernel
theorem dX8_voice_14 : decode cX8_voice 14 = .ok (.invokestatic 58, 3) := by decide +kernel
theorem dX8_voice_17 : decode cX8_voice 17 = .ok (.ifCond .ne 9, 3) := by decide +kernel
theorem dX8_voice_20 : decode cX8_voice 20 = .ok (.aload_n 0, 1) := by decide +kernel
theorem dX8_voice_21 : decode cX8_voice 21 = .ok (.iconst 1, 1) := by decide +kernel
theorem dX8_voice_22 : decode cX8_voice 22 = .ok (.invokevirtual 62, 3) := by decide +kernel
theorem dX8_voice_25 : decode cX8_voice 25 = .ok (.ireturn, 1) := by decide +kernel
theorem dX8_voice_26 : decode cX8_voice 26 = .ok (.aload_n 0, 1) := by decide +kernel
theorem dX8_voice_27 : decode cX8_voice 27 = .ok (.getfield 38, 3) := by decide +kernel
theorem dX8_voice_30 : decode cX8_voice 30 = .ok (.aload_n 0, 1) := by decide +kernel
theorem dX8_voice_31 : decode cX8_voice 31 = .ok (.getfield 10, 3) := by decide +kernel
theorem dX8_voice_34 : decode cX8_voice 34 = .ok (.getfield 79, 3) := by decide +kernel
theorem dX8_voice_37 : decode cX8_voice 37 = .ok (.iload_n 1, 1) := by decide +kernel
theorem dX8_voice_38 : decode cX8_voice 38 = .ok (.aaload, 1) := by decide +kernel
theorem dX8_voice_39 : decode cX8_voice 39 = .ok (.iload_n 1, 1) := by decide +kernel
theorem dX8_voice_40 : decode cX8_voice 40 = .ok (.iload_n 2, 1) := by decide +kernel
theorem dX8_voice_41 : decode cX8_voice 41 = .ok (.iload_n 3, 1) := by decide +kernel
theorem dX8_voice_42 : decode cX8_voice 42 = .ok (.invokevirtual 250, 3) := by decide +kernel
theorem dX8_voice_45 : decode cX8_voice 45 = .ok (.istore 4, 2) := by decide +kernel
theorem dX8_voice_47 : decode cX8_voice 47 = .ok (.aload_n 0, 1) := by decide +kernel
theorem dX8_voice_48 : decode cX8_voice 48 = .ok (.getfield 38, 3) := by decide +kernel
theorem dX8_voice_51 : decode cX8_voice 51 = .ok (.getfield 254, 3) := by decide +kernel
theorem dX8_voice_54 : decode cX8_voice 54 = .ok (.ifCond .eq 12, 3) := by decide +kernel
theorem dX8_voice_57 : decode cX8_voice 57 = .ok (.aload_n 0, 1) := by decide +kernel
theorem dX8_voice_58 : decode cX8_voice 58 = .ok (.bipush 6, 2) := by decide +kernel
theorem dX8_voice_60 : decode cX8_voice 60 = .ok (.invokevirtual 62, 3) := by decide +kernel
theorem dX8_voice_63 : decode cX8_voice 63 = .ok (.goto 5, 3) := by decide +kernel
theorem dX8_voice_66 : decode cX8_voice 66 = .ok (.iload 4, 2) := by decide +kernel
theorem dX8_voice_68 : decode cX8_voice 68 = .ok (.ireturn, 1) := by decide +kernel
theorem dX8_body_0 : decode cX8_body 0 = .ok (.iload_n 1, 1) := by decide +kernel
theorem dX8_body_1 : decode cX8_body 1 = .ok (.iconst 0, 1) := by decide +kernel
theorem dX8_body_2 : decode cX8_body 2 = .ok (.aload_n 0, 1) := by decide +kernel
theorem dX8_body_3 : decode cX8_body 3 = .ok (.getfield 38, 3) := by decide +kernel
theorem dX8_body_6 : decode cX8_body 6 = .ok (.getfield 258, 3) := by decide +kernel
theorem dX8_body_9 : decode cX8_body 9 = .ok (.iconst 1, 1) := by decide +kernel
theorem dX8_body_10 : decode cX8_body 10 = .ok (.isub, 1) := by decide +kernel
theorem dX8_body_11 : decode cX8_body 11 = .ok (.invokestatic 58, 3) := by decide +kernel
theorem dX8_body_14 : decode cX8_body 14 = .ok (.ifCond .ne 9, 3) := by decide +kernel
theorem dX8_body_17 : decode cX8_body 17 = .ok (.aload_n 0, 1) := by decide +kernel
theorem dX8_body_18 : decode cX8_body 18 = .ok (.iconst 2, 1) := by decide +kernel
theorem dX8_body_19 : decode cX8_body 19 = .ok (.invokevirtual 62, 3) := by decide +kernel
theorem dX8_body_22 : decode cX8_body 22 = .ok (.ireturn, 1) := by decide +kernel
theorem dX8_body_23 : decode cX8_body 23 = .ok (.aload_n 0, 1) := by decide +kernel
theorem dX8_body_24 : decode cX8_body 24 = .ok (.getfield 38, 3) := by decide +kernel
theorem dX8_body_27 : decode cX8_body 27 = .ok (.getfield 261, 3) := by decide +kernel
theorem dX8_body_30 : decode cX8_body 30 = .ok (.iload_n 1, 1) := by decide +kernel
theorem dX8_body_31 : decode cX8_body 31 = .ok (.iaload, 1) := by decide +kernel
theorem dX8_body_32 : decode cX8_body 32 = .ok (.ireturn, 1) := by decide +kernel
theorem dX8_sheet_0 : decode cX8_sheet 0 = .ok (.iload_n 1, 1) := by decide +kernel
theorem dX8_sheet_1 : decode cX8_sheet 1 = .ok (.invokestatic 264, 3) := by decide +kernel
theorem dX8_sheet_4 : decode cX8_sheet 4 = .ok (.ifCond .eq 25, 3) := by decide +kernel
theorem dX8_sheet_7 : decode cX8_sheet 7 = .ok (.iload_n 2, 1) := by decide +kernel
theorem dX8_sheet_8 : decode cX8_sheet 8 = .ok (.ifCond .eq 27, 3) := by decide +kernel
theorem dX8_sheet_11 : decode cX8_sheet 11 = .ok (.iload_n 2, 1) := by decide +kernel
theorem dX8_sheet_12 : decode cX8_sheet 12 = .ok (.bipush 8, 2) := by decide +kernel
theorem dX8_sheet_14 : decode cX8_sheet 14 = .ok (.if_icmp .eq 21, 3) := by decide +kernel
theorem dX8_sheet_17 : decode cX8_sheet 17 = .ok (.iload_n 2, 1) := by decide +kernel
theorem dX8_sheet_18 : decode cX8_sheet 18 = .ok (.bipush 16, 2) := by decide +kernel
theorem dX8_sheet_20 : decode cX8_sheet 20 = .ok (.if_icmp .eq 15, 3) := by decide +kernel
theorem dX8_sheet_23 : decode cX8_sheet 23 = .ok (.iload_n 2, 1) := by decide +kernel
theorem dX8_sheet_24 : decode cX8_sheet 24 = .ok (.bipush 32, 2) := by decide +kernel
theorem dX8_sheet_26 : decode cX8_sheet 26 = .ok (.if_icmp .eq 9, 3) := by decide +kernel
theorem dX8_sheet_29 : decode cX8_sheet 29 = .ok (.aload_n 0, 1) := by decide +kernel
theorem dX8_sheet_30 : decode cX8_sheet 30 = .ok (.iconst 1, 1) := by decide +kernel
theorem dX8_sheet_31 : decode cX8_sheet 31 = .ok (.invokevirtual 62, 3) := by decide +kernel
theorem dX8_sheet_34 : decode cX8_sheet 34 = .ok (.ireturn, 1) := by decide +kernel
theorem dX8_sheet_35 : decode cX8_sheet 35 = .ok (.iload_n 2, 1) := by decide +kernel
theorem dX8_sheet_36 : decode cX8_sheet 36 = .ok (.ifCond .eq 13, 3) := by decide +kernel
theorem dX8_sheet_39 : decode cX8_sheet 39 = .ok (.iload_n 3, 1) := by decide +kernel
theorem dX8_sheet_40 : decode cX8_sheet 40 = .ok (.ifCond .ge 9, 3) := by decide +kernel
theorem dX8_sheet_43 : decode cX8_sheet 43 = .ok (.aload_n 0, 1) := by decide +kernel
theorem dX8_sheet_44 : decode cX8_sheet 44 = .ok (.iconst 3, 1) := by decide +kernel
theorem dX8_sheet_45 : decode cX8_sheet 45 = .ok (.invokevirtual 62, 3) := by decide +kernel
theorem dX8_sheet_48 : decode cX8_sheet 48 = .ok (.ireturn, 1) := by decide +kernel
theorem dX8_sheet_49 : decode cX8_sheet 49 = .ok (.iload_n 2, 1) := by decide +kernel
theorem dX8_sheet_50 : decode cX8_sheet 50 = .ok (.ifCond .eq 15, 3) := by decide +kernel
theorem dX8_sheet_53 : decode cX8_sheet 53 = .ok (.iload_n 3, 1) := by decide +kernel
theorem dX8_sheet_54 : decode cX8_sheet 54 = .ok (.bipush 24, 2) := by decide +kernel
theorem dX8_sheet_56 : decode cX8_sheet 56 = .ok (.if_icmp .le 9, 3) := by decide +kernel
theorem dX8_sheet_59 : decode cX8_sheet 59 = .ok (.aload_n 0, 1) := by decide +kernel
theorem dX8_sheet_60 : decode cX8_sheet 60 = .ok (.iconst 1, 1) := by decide +kernel
theorem dX8_sheet_61 : decode cX8_sheet 61 = .ok (.invokevirtual 62, 3) := by decide +kernel
theorem dX8_sheet_64 : decode cX8_sheet 64 = .ok (.ireturn, 1) := by decide +kernel
theorem dX8_sheet_65 : decode cX8_sheet 65 = .ok (.aload_n 0, 1) := by decide +kernel
theorem dX8_sheet_66 : decode cX8_sheet 66 = .ok (.getfield 24, 3) := by decide +kernel
theorem dX8_sheet_69 : decode cX8_sheet 69 = .ok (.iload_n 1, 1) := by decide +kernel
theorem dX8_sheet_70 : decode cX8_sheet 70 = .ok (.aaload, 1) := by decide +kernel
theorem dX8_sheet_71 : decode cX8_sheet 71 = .ok (.iload_n 2, 1) := by decide +kernel
theorem dX8_sheet_72 : decode cX8_sheet 72 = .ok (.iload_n 2, 1) := by decide +kernel
theorem dX8_sheet_73 : decode cX8_sheet 73 = .ok (.ifCond .ne 7, 3) := by decide +kernel
theorem dX8_sheet_76 : decode cX8_sheet 76 = .ok (.iconst 0, 1) := by decide +kernel
theorem dX8_sheet_77 : decode cX8_sheet 77 = .ok (.goto 4, 3) := by decide +kernel
theorem dX8_sheet_80 : decode cX8_sheet 80 = .ok (.iload_n 3, 1) := by decide +kernel
theorem dX8_sheet_81 : decode cX8_sheet 81 = .ok (.invokevirtual 267, 3) := by decide +kernel
theorem dX8_sheet_84 : decode cX8_sheet 84 = .ok (.iconst 1, 1) := by decide +kernel
theorem dX8_sheet_85 : decode cX8_sheet 85 = .ok (.ireturn, 1) := by decide +kernel
theorem dX8_put_0 : decode cX8_put 0 = .ok (.iload_n 1, 1) := by decide +kernel
theorem dX8_put_1 : decode cX8_put 1 = .ok (.invokestatic 264, 3) := by decide +kernel
theorem dX8_put_4 : decode cX8_put 4 = .ok (.ifCond .ne 9, 3) := by decide +kernel
theorem dX8_put_7 : decode cX8_put 7 = .ok (.aload_n 0, 1) := by decide +kernel
theorem dX8_put_8 : decode cX8_put 8 = .ok (.iconst 1, 1) := by decide +kernel
theorem dX8_put_9 : decode cX8_put 9 = .ok (.invokevirtual 62, 3) := by decide +kernel
theorem dX8_put_12 : decode cX8_put 12 = .ok (.ireturn, 1) := by decide +kernel
theorem dX8_put_13 : decode cX8_put 13 = .ok (.aload_n 0, 1) := by decide +kernel
theorem dX8_put_14 : decode cX8_put 14 = .ok (.getfield 24, 3) := by decide +kernel
theorem dX8_put_17 : decode cX8_put 17 = .ok (.iload_n 1, 1) := by decide +kernel
theorem dX8_put_18 : decode cX8_put 18 = .ok (.aaload, 1) := by decide +kernel
theorem dX8_put_19 : decode cX8_put 19 = .ok (.invokevirtual 270, 3) := by decide +kernel
theorem dX8_put_22 : decode cX8_put 22 = .ok (.ifCond .eq 9, 3) := by decide +kernel
theorem dX8_put_25 : decode cX8_put 25 = .ok (.aload_n 0, 1) := by decide +kernel
theorem dX8_put_26 : decode cX8_put 26 = .ok (.iconst 2, 1) := by decide +kernel
theorem dX8_put_27 : decode cX8_put 27 = .ok (.invokevirtual 62, 3) := by decide +kernel
theorem dX8_put_30 : decode cX8_put 30 = .ok (.ireturn, 1) := by decide +kernel
theorem dX8_put_31 : decode cX8_put 31 = .ok (.iload_n 2, 1) := by decide +kernel
theorem dX8_put_32 : decode cX8_put 32 = .ok (.iconst 0, 1) := by decide +kernel
theorem dX8_put_33 : decode cX8_put 33 = .ok (.aload_n 0, 1) := by decide +kernel
theorem dX8_put_34 : decode cX8_put 34 = .ok (.getfield 24, 3) := by decide +kernel
theorem dX8_put_37 : decode cX8_put 37 = .ok (.iload_n 1, 1) := by decide +kernel
theorem dX8_put_38 : decode cX8_put 38 = .ok (.aaload, 1) := by decide +kernel
theorem dX8_put_39 : decode cX8_put 39 = .ok (.getfield 273, 3) := by decide +kernel
theorem dX8_put_42 : decode cX8_put 42 = .ok (.iconst 1, 1) := by decide +kernel
theorem dX8_put_43 : decode cX8_put 43 = .ok (.isub, 1) := by decide +kernel
theorem dX8_put_44 : decode cX8_put 44 = .ok (.invokestatic 58, 3) := by decide +kernel
theorem dX8_put_47 : decode cX8_put 47 = .ok (.ifCond .ne 9, 3) := by decide +kernel
theorem dX8_put_50 : decode cX8_put 50 = .ok (.aload_n 0, 1) := by decide +kernel
theorem dX8_put_51 : decode cX8_put 51 = .ok (.iconst 1, 1) := by decide +kernel
theorem dX8_put_52 : decode cX8_put 52 = .ok (.invokevirtual 62, 3) := by decide +kernel
theorem dX8_put_55 : decode cX8_put 55 = .ok (.ireturn, 1) := by decide +kernel
theorem dX8_put_56 : decode cX8_put 56 = .ok (.aload_n 0, 1) := by decide +kernel
theorem dX8_put_57 : decode cX8_put 57 = .ok (.getfield 24, 3) := by decide +kernel
theorem dX8_put_60 : decode cX8_put 60 = .ok (.iload_n 1, 1) := by decide +kernel
theorem dX8_put_61 : decode cX8_put 61 = .ok (.aaload, 1) := by decide +kernel
theorem dX8_put_62 : decode cX8_put 62 = .ok (.iload_n 2, 1) := by decide +kernel
theorem dX8_put_63 : decode cX8_put 63 = .ok (.iload_n 3, 1) := by decide +kernel
theorem dX8_put_64 : decode cX8_put 64 = .ok (.invokevirtual 274, 3) := by decide +kernel
theorem dX8_put_67 : decode cX8_put 67 = .ok (.iconst 1, 1) := by decide +kernel
theorem dX8_put_68 : decode cX8_put 68 = .ok (.ireturn, 1) := by decide +kernel
theorem dX8_move_0 : decode cX8_move 0 = .ok (.iload_n 1, 1) := by decide +kernel
theorem dX8_move_1 : decode cX8_move 1 = .ok (.invokestatic 264, 3) := by decide +kernel
theorem dX8_move_4 : decode cX8_move 4 = .ok (.ifCond .eq 10, 3) := by decide +kernel
theorem dX8_move_7 : decode cX8_move 7 = .ok (.iload_n 3, 1) := by decide +kernel
theorem dX8_move_8 : decode cX8_move 8 = .ok (.invokestatic 264, 3) := by decide +kernel
theorem dX8_move_11 : decode cX8_move 11 = .ok (.ifCond .ne 9, 3) := by decide +kernel
theorem dX8_move_14 : decode cX8_move 14 = .ok (.aload_n 0, 1) := by decide +kernel
theorem dX8_move_15 : decode cX8_move 15 = .ok (.iconst 1, 1) := by decide +kernel
theorem dX8_move_16 : decode cX8_move 16 = .ok (.invokevirtual 62, 3) := by decide +kernel
theorem dX8_move_19 : decode cX8_move 19 = .ok (.ireturn, 1) := by decide +kernel
theorem dX8_move_20 : decode cX8_move 20 = .ok (.aload_n 0, 1) := by decide +kernel
theorem dX8_move_21 : decode cX8_move 21 = .ok (.getfield 24, 3) := by decide +kernel
theorem dX8_move_24 : decode cX8_move 24 = .ok (.iload_n 1, 1) := by decide +kernel
theorem dX8_move_25 : decode cX8_move 25 = .ok (.aaload, 1) := by decide +kernel
theorem dX8_move_26 : decode cX8_move 26 = .ok (.astore 6, 2) := by decide +kernel
theorem dX8_move_28 : decode cX8_move 28 = .ok (.aload_n 0, 1) := by decide +kernel
theorem dX8_move_29 : decode cX8_move 29 = .ok (.getfield 24, 3) := by decide +kernel
theorem dX8_move_32 : decode cX8_move 32 = .ok (.iload_n 3, 1) := by decide +kernel
theorem dX8_move_33 : decode cX8_move 33 = .ok (.aaload, 1) := by decide +kernel
theorem dX8_move_34 : decode cX8_move 34 = .ok (.astore 7, 2) := by decide +kernel
theorem dX8_move_36 : decode cX8_move 36 = .ok (.aload 6, 2) := by decide +kernel
theorem dX8_move_38 : decode cX8_move 38 = .ok (.invokevirtual 270, 3) := by decide +kernel
theorem dX8_move_41 : decode cX8_move 41 = .ok (.ifCond .ne 11, 3) := by decide +kernel
theorem dX8_move_44 : decode cX8_move 44 = .ok (.aload 7, 2) := by decide +kernel
theorem dX8_move_46 : decode cX8_move 46 = .ok (.invokevirtual 270, 3) := by decide +kernel
theorem dX8_move_49 : decode cX8_move 49 = .ok (.ifCond .eq 9, 3) := by decide +kernel
theorem dX8_move_52 : decode cX8_move 52 = .ok (.aload_n 0, 1) := by decide +kernel
theorem dX8_move_53 : decode cX8_move 53 = .ok (.iconst 2, 1) := by decide +kernel
theorem dX8_move_54 : decode cX8_move 54 = .ok (.invokevirtual 62, 3) := by decide +kernel
theorem dX8_move_57 : decode cX8_move 57 = .ok (.ireturn, 1) := by decide +kernel
theorem dX8_move_58 : decode cX8_move 58 = .ok (.aload 6, 2) := by decide +kernel
theorem dX8_move_60 : decode cX8_move 60 = .ok (.getfield 277, 3) := by decide +kernel
theorem dX8_move_63 : decode cX8_move 63 = .ok (.aload 7, 2) := by decide +kernel
theorem dX8_move_65 : decode cX8_move 65 = .ok (.getfield 277, 3) := by decide +kernel
theorem dX8_move_68 : decode cX8_move 68 = .ok (.if_icmp .eq 9, 3) := by decide +kernel
theorem dX8_move_71 : decode cX8_move 71 = .ok (.aload_n 0, 1) := by decide +kernel
theorem dX8_move_72 : decode cX8_move 72 = .ok (.iconst 5, 1) := by decide +kernel
theorem dX8_move_73 : decode cX8_move 73 = .ok (.invokevirtual 62, 3) := by decide +kernel
theorem dX8_move_76 : decode cX8_move 76 = .ok (.ireturn, 1) := by decide +kernel
theorem dX8_move_77 : decode cX8_move 77 = .ok (.aload 6, 2) := by decide +kernel
theorem dX8_move_79 : decode cX8_move 79 = .ok (.iload_n 2, 1) := by decide +kernel
theorem dX8_move_80 : decode cX8_move 80 = .ok (.iload 5, 2) := by decide +kernel
theorem dX8_move_82 : decode cX8_move 82 = .ok (.invokevirtual 280, 3) := by decide +kernel
theorem dX8_move_85 : decode cX8_move 85 = .ok (.ifCond .eq 15, 3) := by decide +kernel
theorem dX8_move_88 : decode cX8_move 88 = .ok (.aload 7, 2) := by decide +kernel
theorem dX8_move_90 : decode cX8_move 90 = .ok (.iload 4, 2) := by decide +kernel
theorem dX8_move_92 : decode cX8_move 92 = .ok (.iload 5, 2) := by decide +kernel
theorem dX8_move_94 : decode cX8_move 94 = .ok (.invokevirtual 280, 3) := by decide +kernel
theorem dX8_move_97 : decode cX8_move 97 = .ok (.ifCond .ne 9, 3) := by decide +kernel
theorem dX8_move_100 : decode cX8_move 100 = .ok (.aload_n 0, 1) := by decide +kernel
theorem dX8_move_101 : decode cX8_move 101 = .ok (.iconst 1, 1) := by decide +kernel
theorem dX8_move_102 : decode cX8_move 102 = .ok (.invokevirtual 62, 3) := by decide +kernel
theorem dX8_move_105 : decode cX8_move 105 = .ok (.ireturn, 1) := by decide +kernel
theorem dX8_move_106 : decode cX8_move 106 = .ok (.aload 6, 2) := by decide +kernel
theorem dX8_move_108 : decode cX8_move 108 = .ok (.getfield 283, 3) := by decide +kernel
theorem dX8_move_111 : decode cX8_move 111 = .ok (.iload_n 2, 1) := by decide +kernel
theorem dX8_move_112 : decode cX8_move 112 = .ok (.aload 7, 2) := by decide +kernel
theorem dX8_move_114 : decode cX8_move 114 = .ok (.getfield 283, 3) := by decide +kernel
theorem dX8_move_117 : decode cX8_move 117 = .ok (.iload 4, 2) := by decide +kernel
theorem dX8_move_119 : decode cX8_move 119 = .ok (.iload 5, 2) := by decide +kernel
theorem dX8_move_121 : decode cX8_move 121 = .ok (.invokestatic 286, 3) := by decide +kernel
theorem dX8_move_124 : decode cX8_move 124 = .ok (.iload 5, 2) := by decide +kernel
theorem dX8_move_126 : decode cX8_move 126 = .ok (.ireturn, 1) := by decide +kernel
theorem dX8_customers_0 : decode cX8_customers 0 = .ok (.aload_n 0, 1) := by decide +kernel
theorem dX8_customers_1 : decode cX8_customers 1 = .ok (.iload_n 1, 1) := by decide +kernel
theorem dX8_customers_2 : decode cX8_customers 2 = .ok (.invokevirtual 292, 3) := by decide +kernel
theorem dX8_customers_5 : decode cX8_customers 5 = .ok (.istore_n 2, 1) := by decide +kernel
theorem dX8_customers_6 : decode cX8_customers 6 = .ok (.iload_n 2, 1) := by decide +kernel
theorem dX8_customers_7 : decode cX8_customers 7 = .ok (.ifCond .eq 9, 3) := by decide +kernel
theorem dX8_customers_10 : decode cX8_customers 10 = .ok (.aload_n 0, 1) := by decide +kernel
theorem dX8_customers_11 : decode cX8_customers 11 = .ok (.iload_n 2, 1) := by decide +kernel
theorem dX8_customers_12 : decode cX8_customers 12 = .ok (.invokevirtual 62, 3) := by decide +kernel
theorem dX8_customers_15 : decode cX8_customers 15 = .ok (.ireturn, 1) := by decide +kernel
theorem dX8_customers_16 : decode cX8_customers 16 = .ok (.aload_n 0, 1) := by decide +kernel
theorem dX8_customers_17 : decode cX8_customers 17 = .ok (.getfield 24, 3) := by decide +kernel
theorem dX8_customers_20 : decode cX8_customers 20 = .ok (.iload_n 1, 1) := by decide +kernel
theorem dX8_customers_21 : decode cX8_customers 21 = .ok (.aaload, 1) := by decide +kernel
theorem dX8_customers_22 : decode cX8_customers 22 = .ok (.getfield 283, 3) := by decide +kernel
theorem dX8_customers_25 : decode cX8_customers 25 = .ok (.astore_n 3, 1) := by decide +kernel
theorem dX8_customers_26 : decode cX8_customers 26 = .ok (.aload_n 0, 1) := by decide +kernel
theorem dX8_customers_27 : decode cX8_customers 27 = .ok (.getfield 24, 3) := by decide +kernel
theorem dX8_customers_30 : decode cX8_customers 30 = .ok (.iload_n 1, 1) := by decide +kernel
theorem dX8_customers_31 : decode cX8_customers 31 = .ok (.aaload, 1) := by decide +kernel
theorem dX8_customers_32 : decode cX8_customers 32 = .ok (.getfield 273, 3) := by decide +kernel
theorem dX8_customers_35 : decode cX8_customers 35 = .ok (.iconst 3, 1) := by decide +kernel
theorem dX8_customers_36 : decode cX8_customers 36 = .ok (.idiv, 1) := by decide +kernel
theorem dX8_customers_37 : decode cX8_customers 37 = .ok (.istore 4, 2) := by decide +kernel
theorem dX8_customers_39 : decode cX8_customers 39 = .ok (.iconst 0, 1) := by decide +kernel
theorem dX8_customers_40 : decode cX8_customers 40 = .ok (.istore 5, 2) := by decide +kernel
theorem dX8_customers_42 : decode cX8_customers 42 = .ok (.iload 5, 2) := by decide +kernel
theorem dX8_customers_44 : decode cX8_customers 44 = .ok (.iload 4, 2) := by decide +kernel
theorem dX8_customers_46 : decode cX8_customers 46 = .ok (.if_icmp .ge 85, 3) := by decide +kernel
theorem dX8_customers_49 : decode cX8_customers 49 = .ok (.aload_n 3, 1) := by decide +kernel
theorem dX8_customers_50 : decode cX8_customers 50 = .ok (.iconst 3, 1) := by decide +kernel
theorem dX8_customers_51 : decode cX8_customers 51 = .ok (.iload 5, 2) := by decide +kernel
theorem dX8_customers_53 : decode cX8_customers 53 = .ok (.imul, 1) := by decide +kernel
theorem dX8_customers_54 : decode cX8_customers 54 = .ok (.iaload, 1) := by decide +kernel
theorem dX8_customers_55 : decode cX8_customers 55 = .ok (.aload_n 3, 1) := by decide +kernel
theorem dX8_customers_56 : decode cX8_customers 56 = .ok (.iconst 3, 1) := by decide +kernel
theorem dX8_customers_57 : decode cX8_customers 57 = .ok (.iload 5, 2) := by decide +kernel
theorem dX8_customers_59 : decode cX8_customers 59 = .ok (.imul, 1) := by decide +kernel
theorem dX8_customers_60 : decode cX8_customers 60 = .ok (.iconst 1, 1) := by decide +kernel
theorem dX8_customers_61 : decode cX8_customers 61 = .ok (.iadd, 1) := by decide +kernel
theorem dX8_customers_62 : decode cX8_customers 62 = .ok (.iaload, 1) := by decide +kernel
theorem dX8_customers_63 : decode cX8_customers 63 = .ok (.aload_n 3, 1) := by decide +kernel
theorem dX8_customers_64 : decode cX8_customers 64 = .ok (.iconst 3, 1) := by decide +kernel
theorem dX8_customers_65 : decode cX8_customers 65 = .ok (.iload 5, 2) := by decide +kernel
theorem dX8_customers_67 : decode cX8_customers 67 = .ok (.imul, 1) := by decide +kernel
theorem dX8_customers_68 : decode cX8_customers 68 = .ok (.iconst 2, 1) := by decide +kernel
theorem dX8_customers_69 : decode cX8_customers 69 = .ok (.iadd, 1) := by decide +kernel
theorem dX8_customers_70 : decode cX8_customers 70 = .ok (.iaload, 1) := by decide +kernel
theorem dX8_customers_71 : decode cX8_customers 71 = .ok (.invokestatic 118, 3) := by decide +kernel
theorem dX8_customers_74 : decode cX8_customers 74 = .ok (.istore 6, 2) := by decide +kernel
theorem dX8_customers_76 : decode cX8_customers 76 = .ok (.iload 6, 2) := by decide +kernel
theorem dX8_customers_78 : decode cX8_customers 78 = .ok (.ifCond .eq 15, 3) := by decide +kernel
theorem dX8_customers_81 : decode cX8_customers 81 = .ok (.aload_n 0, 1) := by decide +kernel
theorem dX8_customers_82 : decode cX8_customers 82 = .ok (.getfield 10, 3) := by decide +kernel
theorem dX8_customers_85 : decode cX8_customers 85 = .ok (.getfield 121, 3) := by decide +kernel
theorem dX8_customers_88 : decode cX8_customers 88 = .ok (.bipush 10, 2) := by decide +kernel
theorem dX8_customers_90 : decode cX8_customers 90 = .ok (.if_icmp .lt 6, 3) := by decide +kernel
theorem dX8_customers_93 : decode cX8_customers 93 = .ok (.iload 5, 2) := by decide +kernel
theorem dX8_customers_95 : decode cX8_customers 95 = .ok (.ireturn, 1) := by decide +kernel
theorem dX8_customers_96 : decode cX8_customers 96 = .ok (.aload_n 0, 1) := by decide +kernel
theorem dX8_customers_97 : decode cX8_customers 97 = .ok (.getfield 10, 3) := by decide +kernel
theorem dX8_customers_100 : decode cX8_customers 100 = .ok (.aload_n 3, 1) := by decide +kernel
theorem dX8_customers_101 : decode cX8_customers 101 = .ok (.iconst 3, 1) := by decide +kernel
theorem dX8_customers_102 : decode cX8_customers 102 = .ok (.iload 5, 2) := by decide +kernel
theorem dX8_customers_104 : decode cX8_customers 104 = .ok (.imul, 1) := by decide +kernel
theorem dX8_customers_105 : decode cX8_customers 105 = .ok (.iaload, 1) := by decide +kernel
theorem dX8_customers_106 : decode cX8_customers 106 = .ok (.aload_n 3, 1) := by decide +kernel
theorem dX8_customers_107 : decode cX8_customers 107 = .ok (.iconst 3, 1) := by decide +kernel
theorem dX8_customers_108 : decode cX8_customers 108 = .ok (.iload 5, 2) := by decide +kernel
theorem dX8_customers_110 : decode cX8_customers 110 = .ok (.imul, 1) := by decide +kernel
theorem dX8_customers_111 : decode cX8_customers 111 = .ok (.iconst 1, 1) := by decide +kernel
theorem dX8_customers_112 : decode cX8_customers 112 = .ok (.iadd, 1) := by decide +kernel
theorem dX8_customers_113 : decode cX8_customers 113 = .ok (.iaload, 1) := by decide +kernel
theorem dX8_customers_114 : decode cX8_customers 114 = .ok (.aload_n 3, 1) := by decide +kernel
theorem dX8_customers_115 : decode cX8_customers 115 = .ok (.iconst 3, 1) := by decide +kernel
theorem dX8_customers_116 : decode cX8_customers 116 = .ok (.iload 5, 2) := by decide +kernel
theorem dX8_customers_118 : decode cX8_customers 118 = .ok (.imul, 1) := by decide +kernel
theorem dX8_customers_119 : decode cX8_customers 119 = .ok (.iconst 2, 1) := by decide +kernel
theorem dX8_customers_120 : decode cX8_customers 120 = .ok (.iadd, 1) := by decide +kernel
theorem dX8_customers_121 : decode cX8_customers 121 = .ok (.iaload, 1) := by decide +kernel
theorem dX8_customers_122 : decode cX8_customers 122 = .ok (.invokevirtual 124, 3) := by decide +kernel
theorem dX8_customers_125 : decode cX8_customers 125 = .ok (.iinc 5 1, 3) := by decide +kernel
theorem dX8_customers_128 : decode cX8_customers 128 = .ok (.goto (-86), 3) := by decide +kernel
theorem dX8_customers_131 : decode cX8_customers 131 = .ok (.iload 4, 2) := by decide +kernel
theorem dX8_customers_133 : decode cX8_customers 133 = .ok (.ireturn, 1) := by decide +kernel
theorem dX8_judge_0 : decode cX8_judge 0 = .ok (.aload_n 0, 1) := by decide +kernel
theorem dX8_judge_1 : decode cX8_judge 1 = .ok (.iload_n 1, 1) := by decide +kernel
theorem dX8_judge_2 : decode cX8_judge 2 = .ok (.invokevirtual 292, 3) := by decide +kernel
theorem dX8_judge_5 : decode cX8_judge 5 = .ok (.istore_n 2, 1) := by decide +kernel
theorem dX8_judge_6 : decode cX8_judge 6 = .ok (.iload_n 2, 1) := by decide +kernel
theorem dX8_judge_7 : decode cX8_judge 7 = .ok (.ifCond .eq 9, 3) := by decide +kernel
theorem dX8_judge_10 : decode cX8_judge 10 = .ok (.aload_n 0, 1) := by decide +kernel
theorem dX8_judge_11 : decode cX8_judge 11 = .ok (.iload_n 2, 1) := by decide +kernel
theorem dX8_judge_12 : decode cX8_judge 12 = .ok (.invokevirtual 62, 3) := by decide +kernel
theorem dX8_judge_15 : decode cX8_judge 15 = .ok (.ireturn, 1) := by decide +kernel
theorem dX8_judge_16 : decode cX8_judge 16 = .ok (.aload_n 0, 1) := by decide +kernel
theorem dX8_judge_17 : decode cX8_judge 17 = .ok (.getfield 24, 3) := by decide +kernel
theorem dX8_judge_20 : decode cX8_judge 20 = .ok (.iload_n 1, 1) := by decide +kernel
theorem dX8_judge_21 : decode cX8_judge 21 = .ok (.aaload, 1) := by decide +kernel
theorem dX8_judge_22 : decode cX8_judge 22 = .ok (.getfield 283, 3) := by decide +kernel
theorem dX8_judge_25 : decode cX8_judge 25 = .ok (.astore_n 3, 1) := by decide +kernel
theorem dX8_judge_26 : decode cX8_judge 26 = .ok (.aload_n 0, 1) := by decide +kernel
theorem dX8_judge_27 : decode cX8_judge 27 = .ok (.getfield 24, 3) := by decide +kernel
theorem dX8_judge_30 : decode cX8_judge 30 = .ok (.iload_n 1, 1) := by decide +kernel
theorem dX8_judge_31 : decode cX8_judge 31 = .ok (.aaload, 1) := by decide +kernel
theorem dX8_judge_32 : decode cX8_judge 32 = .ok (.getfield 273, 3) := by decide +kernel
theorem dX8_judge_35 : decode cX8_judge 35 = .ok (.iconst 2, 1) := by decide +kernel
theorem dX8_judge_36 : decode cX8_judge 36 = .ok (.idiv, 1) := by decide +kernel
theorem dX8_judge_37 : decode cX8_judge 37 = .ok (.istore 4, 2) := by decide +kernel
theorem dX8_judge_39 : decode cX8_judge 39 = .ok (.aload_n 0, 1) := by decide +kernel
theorem dX8_judge_40 : decode cX8_judge 40 = .ok (.getfield 19, 3) := by decide +kernel
theorem dX8_judge_43 : decode cX8_judge 43 = .ok (.aload_n 0, 1) := by decide +kernel
theorem dX8_judge_44 : decode cX8_judge 44 = .ok (.getfield 10, 3) := by decide +kernel
theorem dX8_judge_47 : decode cX8_judge 47 = .ok (.invokevirtual 208, 3) := by decide +kernel
theorem dX8_judge_50 : decode cX8_judge 50 = .ok (.iconst 0, 1) := by decide +kernel
theorem dX8_judge_51 : decode cX8_judge 51 = .ok (.istore 5, 2) := by decide +kernel
theorem dX8_judge_53 : decode cX8_judge 53 = .ok (.iload 5, 2) := by decide +kernel
theorem dX8_judge_55 : decode cX8_judge 55 = .ok (.iload 4, 2) := by decide +kernel
theorem dX8_judge_57 : decode cX8_judge 57 = .ok (.if_icmp .ge 84, 3) := by decide +kernel
theorem dX8_judge_60 : decode cX8_judge 60 = .ok (.aload_n 3, 1) := by decide +kernel
theorem dX8_judge_61 : decode cX8_judge 61 = .ok (.iconst 2, 1) := by decide +kernel
theorem dX8_judge_62 : decode cX8_judge 62 = .ok (.iload 5, 2) := by decide +kernel
theorem dX8_judge_64 : decode cX8_judge 64 = .ok (.imul, 1) := by decide +kernel
theorem dX8_judge_65 : decode cX8_judge 65 = .ok (.iaload, 1) := by decide +kernel
theorem dX8_judge_66 : decode cX8_judge 66 = .ok (.istore 6, 2) := by decide +kernel
theorem dX8_judge_68 : decode cX8_judge 68 = .ok (.aload_n 3, 1) := by decide +kernel
theorem dX8_judge_69 : decode cX8_judge 69 = .ok (.iconst 2, 1) := by decide +kernel
theorem dX8_judge_70 : decode cX8_judge 70 = .ok (.iload 5, 2) := by decide +kernel
theorem dX8_judge_72 : decode cX8_judge 72 = .ok (.imul, 1) := by decide +kernel
theorem dX8_judge_73 : decode cX8_judge 73 = .ok (.iconst 1, 1) := by decide +kernel
theorem dX8_judge_74 : decode cX8_judge 74 = .ok (.iadd, 1) := by decide +kernel
theorem dX8_judge_75 : decode cX8_judge 75 = .ok (.iaload, 1) := by decide +kernel
theorem dX8_judge_76 : decode cX8_judge 76 = .ok (.istore 7, 2) := by decide +kernel
theorem dX8_judge_78 : decode cX8_judge 78 = .ok (.aload_n 0, 1) := by decide +kernel
theorem dX8_judge_79 : decode cX8_judge 79 = .ok (.getfield 19, 3) := by decide +kernel
theorem dX8_judge_82 : decode cX8_judge 82 = .ok (.iload 6, 2) := by decide +kernel
theorem dX8_judge_84 : decode cX8_judge 84 = .ok (.invokevirtual 89, 3) := by decide +kernel
theorem dX8_judge_87 : decode cX8_judge 87 = .ok (.ifCond .eq 25, 3) := by decide +kernel
theorem dX8_judge_90 : decode cX8_judge 90 = .ok (.iload 7, 2) := by decide +kernel
theorem dX8_judge_92 : decode cX8_judge 92 = .ok (.invokestatic 54, 3) := by decide +kernel
theorem dX8_judge_95 : decode cX8_judge 95 = .ok (.ifCond .eq 17, 3) := by decide +kernel
theorem dX8_judge_98 : decode cX8_judge 98 = .ok (.aload_n 0, 1) := by decide +kernel
theorem dX8_judge_99 : decode cX8_judge 99 = .ok (.getfield 19, 3) := by decide +kernel
theorem dX8_judge_102 : decode cX8_judge 102 = .ok (.iload 6, 2) := by decide +kernel
theorem dX8_judge_104 : decode cX8_judge 104 = .ok (.iload 7, 2) := by decide +kernel
theorem dX8_judge_106 : decode cX8_judge 106 = .ok (.invokevirtual 295, 3) := by decide +kernel
theorem dX8_judge_109 : decode cX8_judge 109 = .ok (.ifCond .ne 6, 3) := by decide +kernel
theorem dX8_judge_112 : decode cX8_judge 112 = .ok (.iload 5, 2) := by decide +kernel
theorem dX8_judge_114 : decode cX8_judge 114 = .ok (.ireturn, 1) := by decide +kernel
theorem dX8_judge_115 : decode cX8_judge 115 = .ok (.aload_n 0, 1) := by decide +kernel
theorem dX8_judge_116 : decode cX8_judge 116 = .ok (.getfield 19, 3) := by decide +kernel
theorem dX8_judge_119 : decode cX8_judge 119 = .ok (.getfield 79, 3) := by decide +kernel
theorem dX8_judge_122 : decode cX8_judge 122 = .ok (.iload 6, 2) := by decide +kernel
theorem dX8_judge_124 : decode cX8_judge 124 = .ok (.aaload, 1) := by decide +kernel
theorem dX8_judge_125 : decode cX8_judge 125 = .ok (.getfield 232, 3) := by decide +kernel
theorem dX8_judge_128 : decode cX8_judge 128 = .ok (.iload 7, 2) := by decide +kernel
theorem dX8_judge_130 : decode cX8_judge 130 = .ok (.dup2, 1) := by decide +kernel
theorem dX8_judge_131 : decode cX8_judge 131 = .ok (.iaload, 1) := by decide +kernel
theorem dX8_judge_132 : decode cX8_judge 132 = .ok (.iconst 1, 1) := by decide +kernel
theorem dX8_judge_133 : decode cX8_judge 133 = .ok (.isub, 1) := by decide +kernel
theorem dX8_judge_134 : decode cX8_judge 134 = .ok (.iastore, 1) := by decide +kernel
theorem dX8_judge_135 : decode cX8_judge 135 = .ok (.iinc 5 1, 3) := by decide +kernel
theorem dX8_judge_138 : decode cX8_judge 138 = .ok (.goto (-85), 3) := by decide +kernel
theorem dX8_judge_141 : decode cX8_judge 141 = .ok (.iload 4, 2) := by decide +kernel
theorem dX8_judge_143 : decode cX8_judge 143 = .ok (.ireturn, 1) := by decide +kernel
theorem dX8_came_0 : decode cX8_came 0 = .ok (.iload_n 1, 1) := by decide +kernel
theorem dX8_came_1 : decode cX8_came 1 = .ok (.invokestatic 264, 3) := by decide +kernel
theorem dX8_came_4 : decode cX8_came 4 = .ok (.ifCond .eq 23, 3) := by decide +kernel
theorem dX8_came_7 : decode cX8_came 7 = .ok (.aload_n 0, 1) := by decide +kernel
theorem dX8_came_8 : decode cX8_came 8 = .ok (.getfield 10, 3) := by decide +kernel
theorem dX8_came_11 : decode cX8_came 11 = .ok (.iload_n 2, 1) := by decide +kernel
theorem dX8_came_12 : decode cX8_came 12 = .ok (.invokevirtual 89, 3) := by decide +kernel
theorem dX8_came_15 : decode cX8_came 15 = .ok (.ifCond .eq 12, 3) := by decide +kernel
theorem dX8_came_18 : decode cX8_came 18 = .ok (.iload_n 3, 1) := by decide +kernel
theorem dX8_came_19 : decode cX8_came 19 = .ok (.iconst 0, 1) := by decide +kernel
theorem dX8_came_20 : decode cX8_came 20 = .ok (.iconst 3, 1) := by decide +kernel
theorem dX8_came_21 : decode cX8_came 21 = .ok (.invokestatic 58, 3) := by decide +kernel
theorem dX8_came_24 : decode cX8_came 24 = .ok (.ifCond .ne 9, 3) := by decide +kernel
theorem dX8_came_27 : decode cX8_came 27 = .ok (.aload_n 0, 1) := by decide +kernel
theorem dX8_came_28 : decode cX8_came 28 = .ok (.iconst 1, 1) := by decide +kernel
theorem dX8_came_29 : decode cX8_came 29 = .ok (.invokevirtual 62, 3) := by decide +kernel
theorem dX8_came_32 : decode cX8_came 32 = .ok (.ireturn, 1) := by decide +kernel
theorem dX8_came_33 : decode cX8_came 33 = .ok (.aload_n 0, 1) := by decide +kernel
theorem dX8_came_34 : decode cX8_came 34 = .ok (.getfield 24, 3) := by decide +kernel
theorem dX8_came_37 : decode cX8_came 37 = .ok (.iload_n 1, 1) := by decide +kernel
theorem dX8_came_38 : decode cX8_came 38 = .ok (.aaload, 1) := by decide +kernel
theorem dX8_came_39 : decode cX8_came 39 = .ok (.invokevirtual 270, 3) := by decide +kernel
theorem dX8_came_42 : decode cX8_came 42 = .ok (.ifCond .ne 17, 3) := by decide +kernel
theorem dX8_came_45 : decode cX8_came 45 = .ok (.aload_n 0, 1) := by decide +kernel
theorem dX8_came_46 : decode cX8_came 46 = .ok (.getfield 24, 3) := by decide +kernel
theorem dX8_came_49 : decode cX8_came 49 = .ok (.iload_n 1, 1) := by decide +kernel
theorem dX8_came_50 : decode cX8_came 50 = .ok (.aaload, 1) := by decide +kernel
theorem dX8_came_51 : decode cX8_came 51 = .ok (.getfield 273, 3) := by decide +kernel
theorem dX8_came_54 : decode cX8_came 54 = .ok (.bipush 6, 2) := by decide +kernel
theorem dX8_came_56 : decode cX8_came 56 = .ok (.if_icmp .ge 9, 3) := by decide +kernel
theorem dX8_came_59 : decode cX8_came 59 = .ok (.aload_n 0, 1) := by decide +kernel
theorem dX8_came_60 : decode cX8_came 60 = .ok (.iconst 2, 1) := by decide +kernel
theorem dX8_came_61 : decode cX8_came 61 = .ok (.invokevirtual 62, 3) := by decide +kernel
theorem dX8_came_64 : decode cX8_came 64 = .ok (.ireturn, 1) := by decide +kernel
theorem dX8_came_65 : decode cX8_came 65 = .ok (.aload_n 0, 1) := by decide +kernel
theorem dX8_came_66 : decode cX8_came 66 = .ok (.getfield 19, 3) := by decide +kernel
theorem dX8_came_69 : decode cX8_came 69 = .ok (.aload_n 0, 1) := by decide +kernel
theorem dX8_came_70 : decode cX8_came 70 = .ok (.getfield 10, 3) := by decide +kernel
theorem dX8_came_73 : decode cX8_came 73 = .ok (.invokevirtual 208, 3) := by decide +kernel
theorem dX8_came_76 : decode cX8_came 76 = .ok (.aload_n 0, 1) := by decide +kernel
theorem dX8_came_77 : decode cX8_came 77 = .ok (.getfield 45, 3) := by decide +kernel
theorem dX8_came_80 : decode cX8_came 80 = .ok (.aload_n 0, 1) := by decide +kernel
theorem dX8_came_81 : decode cX8_came 81 = .ok (.getfield 19, 3) := by decide +kernel
theorem dX8_came_84 : decode cX8_came 84 = .ok (.iload_n 2, 1) := by decide +kernel
theorem dX8_came_85 : decode cX8_came 85 = .ok (.aload_n 0, 1) := by decide +kernel
theorem dX8_came_86 : decode cX8_came 86 = .ok (.getfield 24, 3) := by decide +kernel
theorem dX8_came_89 : decode cX8_came 89 = .ok (.iload_n 1, 1) := by decide +kernel
theorem dX8_came_90 : decode cX8_came 90 = .ok (.aaload, 1) := by decide +kernel
theorem dX8_came_91 : decode cX8_came 91 = .ok (.getfield 283, 3) := by decide +kernel
theorem dX8_came_94 : decode cX8_came 94 = .ok (.invokevirtual 298, 3) := by decide +kernel
theorem dX8_came_97 : decode cX8_came 97 = .ok (.aload_n 0, 1) := by decide +kernel
theorem dX8_came_98 : decode cX8_came 98 = .ok (.getfield 45, 3) := by decide +kernel
theorem dX8_came_101 : decode cX8_came 101 = .ok (.getfield 302, 3) := by decide +kernel
theorem dX8_came_104 : decode cX8_came 104 = .ok (.ifCond .ne 19, 3) := by decide +kernel
theorem dX8_came_107 : decode cX8_came 107 = .ok (.iload_n 3, 1) := by decide +kernel
theorem dX8_came_108 : decode cX8_came 108 = .ok (.iconst 1, 1) := by decide +kernel
theorem dX8_came_109 : decode cX8_came 109 = .ok (.if_icmp .eq 8, 3) := by decide +kernel
theorem dX8_came_112 : decode cX8_came 112 = .ok (.iload_n 3, 1) := by decide +kernel
theorem dX8_came_113 : decode cX8_came 113 = .ok (.iconst 2, 1) := by decide +kernel
theorem dX8_came_114 : decode cX8_came 114 = .ok (.if_icmp .ne 9, 3) := by decide +kernel
theorem dX8_came_117 : decode cX8_came 117 = .ok (.aload_n 0, 1) := by decide +kernel
theorem dX8_came_118 : decode cX8_came 118 = .ok (.iconst 2, 1) := by decide +kernel
theorem dX8_came_119 : decode cX8_came 119 = .ok (.invokevirtual 62, 3) := by decide +kernel
theorem dX8_came_122 : decode cX8_came 122 = .ok (.ireturn, 1) := by decide +kernel
theorem dX8_came_123 : decode cX8_came 123 = .ok (.iload_n 3, 1) := by decide +kernel
theorem dX8_came_124 : decode cX8_came 124 = .ok (.tableswitch 52 0 2 #[28, 36, 44], 28) := by decide +kernel
theorem dX8_came_152 : decode cX8_came 152 = .ok (.aload_n 0, 1) := by decide +kernel
theorem dX8_came_153 : decode cX8_came 153 = .ok (.getfield 45, 3) := by decide +kernel
theorem dX8_came_156 : decode cX8_came 156 = .ok (.getfield 302, 3) := by decide +kernel
theorem dX8_came_159 : decode cX8_came 159 = .ok (.ireturn, 1) := by decide +kernel
theorem dX8_came_160 : decode cX8_came 160 = .ok (.aload_n 0, 1) := by decide +kernel
theorem dX8_came_161 : decode cX8_came 161 = .ok (.getfield 45, 3) := by decide +kernel
theorem dX8_came_164 : decode cX8_came 164 = .ok (.getfield 305, 3) := by decide +kernel
theorem dX8_came_167 : decode cX8_came 167 = .ok (.ireturn, 1) := by decide +kernel
theorem dX8_came_168 : decode cX8_came 168 = .ok (.aload_n 0, 1) := by decide +kernel
theorem dX8_came_169 : decode cX8_came 169 = .ok (.getfield 45, 3) := by decide +kernel
theorem dX8_came_172 : decode cX8_came 172 = .ok (.getfield 308, 3) := by decide +kernel
theorem dX8_came_175 : decode cX8_came 175 = .ok (.ireturn, 1) := by decide +kernel
theorem dX8_came_176 : decode cX8_came 176 = .ok (.aload_n 0, 1) := by decide +kernel
theorem dX8_came_177 : decode cX8_came 177 = .ok (.getfield 45, 3) := by decide +kernel
theorem dX8_came_180 : decode cX8_came 180 = .ok (.getfield 311, 3) := by decide +kernel
theorem dX8_came_183 : decode cX8_came 183 = .ok (.ireturn, 1) := by decide +kernel
theorem dX8_image_0 : decode cX8_image 0 = .ok (.aload_n 0, 1) := by decide +kernel
theorem dX8_image_1 : decode cX8_image 1 = .ok (.getfield 16, 3) := by decide +kernel
theorem dX8_image_4 : decode cX8_image 4 = .ok (.aload_n 0, 1) := by decide +kernel
theorem dX8_image_5 : decode cX8_image 5 = .ok (.getfield 10, 3) := by decide +kernel
theorem dX8_image_8 : decode cX8_image 8 = .ok (.invokevirtual 208, 3) := by decide +kernel
theorem dX8_image_11 : decode cX8_image 11 = .ok (.aload_n 0, 1) := by decide +kernel
theorem dX8_image_12 : decode cX8_image 12 = .ok (.dup, 1) := by decide +kernel
theorem dX8_image_13 : decode cX8_image 13 = .ok (.getfield 314, 3) := by decide +kernel
theorem dX8_image_16 : decode cX8_image 16 = .ok (.iconst 1, 1) := by decide +kernel
theorem dX8_image_17 : decode cX8_image 17 = .ok (.iadd, 1) := by decide +kernel
theorem dX8_image_18 : decode cX8_image 18 = .ok (.putfield 314, 3) := by decide +kernel
theorem dX8_image_21 : decode cX8_image 21 = .ok (.aload_n 0, 1) := by decide +kernel
theorem dX8_image_22 : decode cX8_image 22 = .ok (.getfield 314, 3) := by decide +kernel
theorem dX8_image_25 : decode cX8_image 25 = .ok (.ireturn, 1) := by decide +kernel
theorem dX8_restore_0 : decode cX8_restore 0 = .ok (.aload_n 0, 1) := by decide +kernel
theorem dX8_restore_1 : decode cX8_restore 1 = .ok (.getfield 314, 3) := by decide +kernel
theorem dX8_restore_4 : decode cX8_restore 4 = .ok (.ifCond .ne 9, 3) := by decide +kernel
theorem dX8_restore_7 : decode cX8_restore 7 = .ok (.aload_n 0, 1) := by decide +kernel
theorem dX8_restore_8 : decode cX8_restore 8 = .ok (.iconst 2, 1) := by decide +kernel
theorem dX8_restore_9 : decode cX8_restore 9 = .ok (.invokevirtual 62, 3) := by decide +kernel
theorem dX8_restore_12 : decode cX8_restore 12 = .ok (.ireturn, 1) := by decide +kernel
theorem dX8_restore_13 : decode cX8_restore 13 = .ok (.aload_n 0, 1) := by decide +kernel
theorem dX8_restore_14 : decode cX8_restore 14 = .ok (.getfield 10, 3) := by decide +kernel
theorem dX8_restore_17 : decode cX8_restore 17 = .ok (.aload_n 0, 1) := by decide +kernel
theorem dX8_restore_18 : decode cX8_restore 18 = .ok (.getfield 16, 3) := by decide +kernel
theorem dX8_restore_21 : decode cX8_restore 21 = .ok (.invokevirtual 208, 3) := by decide +kernel
theorem dX8_restore_24 : decode cX8_restore 24 = .ok (.aload_n 0, 1) := by decide +kernel
theorem dX8_restore_25 : decode cX8_restore 25 = .ok (.getfield 10, 3) := by decide +kernel
theorem dX8_restore_28 : decode cX8_restore 28 = .ok (.getfield 317, 3) := by decide +kernel
theorem dX8_restore_31 : decode cX8_restore 31 = .ok (.ireturn, 1) := by decide +kernel
theorem dX8_tell_0 : decode cX8_tell 0 = .ok (.aload_n 0, 1) := by decide +kernel
theorem dX8_tell_1 : decode cX8_tell 1 = .ok (.getfield 10, 3) := by decide +kernel
theorem dX8_tell_4 : decode cX8_tell 4 = .ok (.getfield 320, 3) := by decide +kernel
theorem dX8_tell_7 : decode cX8_tell 7 = .ok (.bipush 24, 2) := by decide +kernel
theorem dX8_tell_9 : decode cX8_tell 9 = .ok (.if_icmp .lt 9, 3) := by decide +kernel
theorem dX8_tell_12 : decode cX8_tell 12 = .ok (.aload_n 0, 1) := by decide +kernel
theorem dX8_tell_13 : decode cX8_tell 13 = .ok (.iconst 4, 1) := by decide +kernel
theorem dX8_tell_14 : decode cX8_tell 14 = .ok (.invokevirtual 62, 3) := by decide +kernel
theorem dX8_tell_17 : decode cX8_tell 17 = .ok (.ireturn, 1) := by decide +kernel
theorem dX8_tell_18 : decode cX8_tell 18 = .ok (.aload_n 0, 1) := by decide +kernel
theorem dX8_tell_19 : decode cX8_tell 19 = .ok (.getfield 10, 3) := by decide +kernel
theorem dX8_tell_22 : decode cX8_tell 22 = .ok (.getfield 323, 3) := by decide +kernel
theorem dX8_tell_25 : decode cX8_tell 25 = .ok (.aload_n 0, 1) := by decide +kernel
theorem dX8_tell_26 : decode cX8_tell 26 = .ok (.getfield 10, 3) := by decide +kernel
theorem dX8_tell_29 : decode cX8_tell 29 = .ok (.getfield 320, 3) := by decide +kernel
theorem dX8_tell_32 : decode cX8_tell 32 = .ok (.iload_n 1, 1) := by decide +kernel
theorem dX8_tell_33 : decode cX8_tell 33 = .ok (.iastore, 1) := by decide +kernel
theorem dX8_tell_34 : decode cX8_tell 34 = .ok (.aload_n 0, 1) := by decide +kernel
theorem dX8_tell_35 : decode cX8_tell 35 = .ok (.getfield 10, 3) := by decide +kernel
theorem dX8_tell_38 : decode cX8_tell 38 = .ok (.dup, 1) := by decide +kernel
theorem dX8_tell_39 : decode cX8_tell 39 = .ok (.getfield 320, 3) := by decide +kernel
theorem dX8_tell_42 : decode cX8_tell 42 = .ok (.iconst 1, 1) := by decide +kernel
theorem dX8_tell_43 : decode cX8_tell 43 = .ok (.iadd, 1) := by decide +kernel
theorem dX8_tell_44 : decode cX8_tell 44 = .ok (.putfield 320, 3) := by decide +kernel
theorem dX8_tell_47 : decode cX8_tell 47 = .ok (.aload_n 0, 1) := by decide +kernel
theorem dX8_tell_48 : decode cX8_tell 48 = .ok (.getfield 10, 3) := by decide +kernel
theorem dX8_tell_51 : decode cX8_tell 51 = .ok (.getfield 320, 3) := by decide +kernel
theorem dX8_tell_54 : decode cX8_tell 54 = .ok (.ireturn, 1) := by decide +kernel
theorem dX8_check_0 : decode cX8_check 0 = .ok (.aload_n 0, 1) := by decide +kernel
theorem dX8_check_1 : decode cX8_check 1 = .ok (.getfield 10, 3) := by decide +kernel
theorem dX8_check_4 : decode cX8_check 4 = .ok (.getfield 320, 3) := by decide +kernel
theorem dX8_check_7 : decode cX8_check 7 = .ok (.istore_n 1, 1) := by decide +kernel
theorem dX8_check_8 : decode cX8_check 8 = .ok (.aload_n 0, 1) := by decide +kernel
theorem dX8_check_9 : decode cX8_check 9 = .ok (.getfield 10, 3) := by decide +kernel
theorem dX8_check_12 : decode cX8_check 12 = .ok (.iconst 0, 1) := by decide +kernel
theorem dX8_check_13 : decode cX8_check 13 = .ok (.putfield 320, 3) := by decide +kernel
theorem dX8_check_16 : decode cX8_check 16 = .ok (.aload_n 0, 1) := by decide +kernel
theorem dX8_check_17 : decode cX8_check 17 = .ok (.getfield 19, 3) := by decide +kernel
theorem dX8_check_20 : decode cX8_check 20 = .ok (.aload_n 0, 1) := by decide +kernel
theorem dX8_check_21 : decode cX8_check 21 = .ok (.getfield 10, 3) := by decide +kernel
theorem dX8_check_24 : decode cX8_check 24 = .ok (.invokevirtual 208, 3) := by decide +kernel
theorem dX8_check_27 : decode cX8_check 27 = .ok (.iconst 0, 1) := by decide +kernel
theorem dX8_check_28 : decode cX8_check 28 = .ok (.istore_n 2, 1) := by decide +kernel
theorem dX8_check_29 : decode cX8_check 29 = .ok (.iload_n 2, 1) := by decide +kernel
theorem dX8_check_30 : decode cX8_check 30 = .ok (.iload_n 1, 1) := by decide +kernel
theorem dX8_check_31 : decode cX8_check 31 = .ok (.if_icmp .ge 41, 3) := by decide +kernel
theorem dX8_check_34 : decode cX8_check 34 = .ok (.aload_n 0, 1) := by decide +kernel
theorem dX8_check_35 : decode cX8_check 35 = .ok (.getfield 19, 3) := by decide +kernel
theorem dX8_check_38 : decode cX8_check 38 = .ok (.iconst 1, 1) := by decide +kernel
theorem dX8_check_39 : decode cX8_check 39 = .ok (.iconst 0, 1) := by decide +kernel
theorem dX8_check_40 : decode cX8_check 40 = .ok (.invokevirtual 198, 3) := by decide +kernel
theorem dX8_check_43 : decode cX8_check 43 = .ok (.aload_n 0, 1) := by decide +kernel
theorem dX8_check_44 : decode cX8_check 44 = .ok (.getfield 19, 3) := by decide +kernel
theorem dX8_check_47 : decode cX8_check 47 = .ok (.getfield 202, 3) := by decide +kernel
theorem dX8_check_50 : decode cX8_check 50 = .ok (.aload_n 0, 1) := by decide +kernel
theorem dX8_check_51 : decode cX8_check 51 = .ok (.getfield 10, 3) := by decide +kernel
theorem dX8_check_54 : decode cX8_check 54 = .ok (.getfield 323, 3) := by decide +kernel
theorem dX8_check_57 : decode cX8_check 57 = .ok (.iload_n 2, 1) := by decide +kernel
theorem dX8_check_58 : decode cX8_check 58 = .ok (.iaload, 1) := by decide +kernel
theorem dX8_check_59 : decode cX8_check 59 = .ok (.if_icmp .eq 7, 3) := by decide +kernel
theorem dX8_check_62 : decode cX8_check 62 = .ok (.iconst 1, 1) := by decide +kernel
theorem dX8_check_63 : decode cX8_check 63 = .ok (.iload_n 2, 1) := by decide +kernel
theorem dX8_check_64 : decode cX8_check 64 = .ok (.iadd, 1) := by decide +kernel
theorem dX8_check_65 : decode cX8_check 65 = .ok (.ireturn, 1) := by decide +kernel
theorem dX8_check_66 : decode cX8_check 66 = .ok (.iinc 2 1, 3) := by decide +kernel
theorem dX8_check_69 : decode cX8_check 69 = .ok (.goto (-40), 3) := by decide +kernel
theorem dX8_check_72 : decode cX8_check 72 = .ok (.iconst 0, 1) := by decide +kernel
theorem dX8_check_73 : decode cX8_check 73 = .ok (.ireturn, 1) := by decide +kernel
theorem dX8_count_0 : decode cX8_count 0 = .ok (.iload_n 1, 1) := by decide +kernel
theorem dX8_count_1 : decode cX8_count 1 = .ok (.tableswitch 147 0 10 #[59, 67, 75, 83, 91, 99, 107, 115, 123, 131, 139], 59) := by decide +kernel
theorem dX8_count_60 : decode cX8_count 60 = .ok (.aload_n 0, 1) := by decide +kernel
theorem dX8_count_61 : decode cX8_count 61 = .ok (.getfield 10, 3) := by decide +kernel
theorem dX8_count_64 : decode cX8_count 64 = .ok (.getfield 76, 3) := by decide +kernel
theorem dX8_count_67 : decode cX8_count 67 = .ok (.ireturn, 1) := by decide +kernel
theorem dX8_count_68 : decode cX8_count 68 = .ok (.aload_n 0, 1) := by decide +kernel
theorem dX8_count_69 : decode cX8_count 69 = .ok (.getfield 10, 3) := by decide +kernel
theorem dX8_count_72 : decode cX8_count 72 = .ok (.getfield 121, 3) := by decide +kernel
theorem dX8_count_75 : decode cX8_count 75 = .ok (.ireturn, 1) := by decide +kernel
theorem dX8_count_76 : decode cX8_count 76 = .ok (.aload_n 0, 1) := by decide +kernel
theorem dX8_count_77 : decode cX8_count 77 = .ok (.getfield 10, 3) := by decide +kernel
theorem dX8_count_80 : decode cX8_count 80 = .ok (.getfield 317, 3) := by decide +kernel
theorem dX8_count_83 : decode cX8_count 83 = .ok (.ireturn, 1) := by decide +kernel
theorem dX8_count_84 : decode cX8_count 84 = .ok (.aload_n 0, 1) := by decide +kernel
theorem dX8_count_85 : decode cX8_count 85 = .ok (.getfield 10, 3) := by decide +kernel
theorem dX8_count_88 : decode cX8_count 88 = .ok (.getfield 202, 3) := by decide +kernel
theorem dX8_count_91 : decode cX8_count 91 = .ok (.ireturn, 1) := by decide +kernel
theorem dX8_count_92 : decode cX8_count 92 = .ok (.aload_n 0, 1) := by decide +kernel
theorem dX8_count_93 : decode cX8_count 93 = .ok (.getfield 10, 3) := by decide +kernel
theorem dX8_count_96 : decode cX8_count 96 = .ok (.getfield 69, 3) := by decide +kernel
theorem dX8_count_99 : decode cX8_count 99 = .ok (.ireturn, 1) := by decide +kernel
theorem dX8_count_100 : decode cX8_count 100 = .ok (.aload_n 0, 1) := by decide +kernel
theorem dX8_count_101 : decode cX8_count 101 = .ok (.getfield 10, 3) := by decide +kernel
theorem dX8_count_104 : decode cX8_count 104 = .ok (.getfield 73, 3) := by decide +kernel
theorem dX8_count_107 : decode cX8_count 107 = .ok (.ireturn, 1) := by decide +kernel
theorem dX8_count_108 : decode cX8_count 108 = .ok (.aload_n 0, 1) := by decide +kernel
theorem dX8_count_109 : decode cX8_count 109 = .ok (.getfield 10, 3) := by decide +kernel
theorem dX8_count_112 : decode cX8_count 112 = .ok (.invokevirtual 326, 3) := by decide +kernel
theorem dX8_count_115 : decode cX8_count 115 = .ok (.ireturn, 1) := by decide +kernel
theorem dX8_count_116 : decode cX8_count 116 = .ok (.aload_n 0, 1) := by decide +kernel
theorem dX8_count_117 : decode cX8_count 117 = .ok (.getfield 10, 3) := by decide +kernel
theorem dX8_count_120 : decode cX8_count 120 = .ok (.getfield 149, 3) := by decide +kernel
theorem dX8_count_123 : decode cX8_count 123 = .ok (.ireturn, 1) := by decide +kernel
theorem dX8_count_124 : decode cX8_count 124 = .ok (.aload_n 0, 1) := by decide +kernel
theorem dX8_count_125 : decode cX8_count 125 = .ok (.getfield 10, 3) := by decide +kernel
theorem dX8_count_128 : decode cX8_count 128 = .ok (.getfield 320, 3) := by decide +kernel
theorem dX8_count_131 : decode cX8_count 131 = .ok (.ireturn, 1) := by decide +kernel
theorem dX8_count_132 : decode cX8_count 132 = .ok (.aload_n 0, 1) := by decide +kernel
theorem dX8_count_133 : decode cX8_count 133 = .ok (.getfield 38, 3) := by decide +kernel
theorem dX8_count_136 : decode cX8_count 136 = .ok (.getfield 258, 3) := by decide +kernel
theorem dX8_count_139 : decode cX8_count 139 = .ok (.ireturn, 1) := by decide +kernel
theorem dX8_count_140 : decode cX8_count 140 = .ok (.aload_n 0, 1) := by decide +kernel
theorem dX8_count_141 : decode cX8_count 141 = .ok (.getfield 10, 3) := by decide +kernel
theorem dX8_count_144 : decode cX8_count 144 = .ok (.getfield 205, 3) := by decide +kernel
theorem dX8_count_147 : decode cX8_count 147 = .ok (.ireturn, 1) := by decide +kernel
theorem dX8_count_148 : decode cX8_count 148 = .ok (.iload_n 1, 1) := by decide +kernel
theorem dX8_count_149 : decode cX8_count 149 = .ok (.bipush 11, 2) := by decide +kernel
theorem dX8_count_151 : decode cX8_count 151 = .ok (.isub, 1) := by decide +kernel
theorem dX8_count_152 : decode cX8_count 152 = .ok (.invokestatic 54, 3) := by decide +kernel
theorem dX8_count_155 : decode cX8_count 155 = .ok (.ifCond .eq 18, 3) := by decide +kernel
theorem dX8_count_158 : decode cX8_count 158 = .ok (.aload_n 0, 1) := by decide +kernel
theorem dX8_count_159 : decode cX8_count 159 = .ok (.getfield 10, 3) := by decide +kernel
theorem dX8_count_162 : decode cX8_count 162 = .ok (.getfield 66, 3) := by decide +kernel
theorem dX8_count_165 : decode cX8_count 165 = .ok (.iload_n 1, 1) := by decide +kernel
theorem dX8_count_166 : decode cX8_count 166 = .ok (.bipush 11, 2) := by decide +kernel
theorem dX8_count_168 : decode cX8_count 168 = .ok (.isub, 1) := by decide +kernel
theorem dX8_count_169 : decode cX8_count 169 = .ok (.iaload, 1) := by decide +kernel
theorem dX8_count_170 : decode cX8_count 170 = .ok (.goto 8, 3) := by decide +kernel
theorem dX8_count_173 : decode cX8_count 173 = .ok (.aload_n 0, 1) := by decide +kernel
theorem dX8_count_174 : decode cX8_count 174 = .ok (.iconst 1, 1) := by decide +kernel
theorem dX8_count_175 : decode cX8_count 175 = .ok (.invokevirtual 62, 3) := by decide +kernel
theorem dX8_count_178 : decode cX8_count 178 = .ok (.ireturn, 1) := by decide +kernel
theorem dX8_told_0 : decode cX8_told 0 = .ok (.iload_n 1, 1) := by decide +kernel
theorem dX8_told_1 : decode cX8_told 1 = .ok (.iconst 1, 1) := by decide +kernel
theorem dX8_told_2 : decode cX8_told 2 = .ok (.bipush 6, 2) := by decide +kernel
theorem dX8_told_4 : decode cX8_told 4 = .ok (.invokestatic 58, 3) := by decide +kernel
theorem dX8_told_7 : decode cX8_told 7 = .ok (.ifCond .eq 12, 3) := by decide +kernel
theorem dX8_told_10 : decode cX8_told 10 = .ok (.aload_n 0, 1) := by decide +kernel
theorem dX8_told_11 : decode cX8_told 11 = .ok (.getfield 49, 3) := by decide +kernel
theorem dX8_told_14 : decode cX8_told 14 = .ok (.iload_n 1, 1) := by decide +kernel
theorem dX8_told_15 : decode cX8_told 15 = .ok (.iaload, 1) := by decide +kernel
theorem dX8_told_16 : decode cX8_told 16 = .ok (.goto 8, 3) := by decide +kernel
theorem dX8_told_19 : decode cX8_told 19 = .ok (.aload_n 0, 1) := by decide +kernel
theorem dX8_told_20 : decode cX8_told 20 = .ok (.iconst 1, 1) := by decide +kernel
theorem dX8_told_21 : decode cX8_told 21 = .ok (.invokevirtual 62, 3) := by decide +kernel
theorem dX8_told_24 : decode cX8_told 24 = .ok (.ireturn, 1) := by decide +kernel
theorem dX8_error_0 : decode cX8_error 0 = .ok (.aload_n 0, 1) := by decide +kernel
theorem dX8_error_1 : decode cX8_error 1 = .ok (.getfield 49, 3) := by decide +kernel
theorem dX8_error_4 : decode cX8_error 4 = .ok (.iload_n 1, 1) := by decide +kernel
theorem dX8_error_5 : decode cX8_error 5 = .ok (.dup2, 1) := by decide +kernel
theorem dX8_error_6 : decode cX8_error 6 = .ok (.iaload, 1) := by decide +kernel
theorem dX8_error_7 : decode cX8_error 7 = .ok (.iconst 1, 1) := by decide +kernel
theorem dX8_error_8 : decode cX8_error 8 = .ok (.iadd, 1) := by decide +kernel
theorem dX8_error_9 : decode cX8_error 9 = .ok (.iastore, 1) := by decide +kernel
theorem dX8_error_10 : decode cX8_error 10 = .ok (.ldc_w 329, 3) := by decide +kernel
theorem dX8_error_13 : decode cX8_error 13 = .ok (.iload_n 1, 1) := by decide +kernel
theorem dX8_error_14 : decode cX8_error 14 = .ok (.isub, 1) := by decide +kernel
theorem dX8_error_15 : decode cX8_error 15 = .ok (.ireturn, 1) := by decide +kernel
theorem dX8_daysRefusal_0 : decode cX8_daysRefusal 0 = .ok (.iload_n 1, 1) := by decide +kernel
theorem dX8_daysRefusal_1 : decode cX8_daysRefusal 1 = .ok (.iconst 1, 1) := by decide +kernel
theorem dX8_daysRefusal_2 : decode cX8_daysRefusal 2 = .ok (.bipush 60, 2) := by decide +kernel
theorem dX8_daysRefusal_4 : decode cX8_daysRefusal 4 = .ok (.invokestatic 58, 3) := by decide +kernel
theorem dX8_daysRefusal_7 : decode cX8_daysRefusal 7 = .ok (.ifCond .ne 5, 3) := by decide +kernel
theorem dX8_daysRefusal_10 : decode cX8_daysRefusal 10 = .ok (.iconst 1, 1) := by decide +kernel
theorem dX8_daysRefusal_11 : decode cX8_daysRefusal 11 = .ok (.ireturn, 1) := by decide +kernel
theorem dX8_daysRefusal_12 : decode cX8_daysRefusal 12 = .ok (.aload_n 0, 1) := by decide +kernel
theorem dX8_daysRefusal_13 : decode cX8_daysRefusal 13 = .ok (.getfield 10, 3) := by decide +kernel
theorem dX8_daysRefusal_16 : decode cX8_daysRefusal 16 = .ok (.getfield 317, 3) := by decide +kernel
theorem dX8_daysRefusal_19 : decode cX8_daysRefusal 19 = .ok (.iload_n 1, 1) := by decide +kernel
theorem dX8_daysRefusal_20 : decode cX8_daysRefusal 20 = .ok (.iadd, 1) := by decide +kernel
theorem dX8_daysRefusal_21 : decode cX8_daysRefusal 21 = .ok (.sipush 9999, 3) := by decide +kernel
theorem dX8_daysRefusal_24 : decode cX8_daysRefusal 24 = .ok (.if_icmp .le 7, 3) := by decide +kernel
theorem dX8_daysRefusal_27 : decode cX8_daysRefusal 27 = .ok (.iconst 3, 1) := by decide +kernel
theorem dX8_daysRefusal_28 : decode cX8_daysRefusal 28 = .ok (.goto 4, 3) := by decide +kernel
theorem dX8_daysRefusal_31 : decode cX8_daysRefusal 31 = .ok (.iconst 0, 1) := by decide +kernel
theorem dX8_daysRefusal_32 : decode cX8_daysRefusal 32 = .ok (.ireturn, 1) := by decide +kernel
theorem dX8_sheetRefusal_0 : decode cX8_sheetRefusal 0 = .ok (.iload_n 1, 1) := by decide +kernel
theorem dX8_sheetRefusal_1 : decode cX8_sheetRefusal 1 = .ok (.invokestatic 264, 3) := by decide +kernel
theorem dX8_sheetRefusal_4 : decode cX8_sheetRefusal 4 = .ok (.ifCond .ne 5, 3) := by decide +kernel
theorem dX8_sheetRefusal_7 : decode cX8_sheetRefusal 7 = .ok (.iconst 1, 1) := by decide +kernel
theorem dX8_sheetRefusal_8 : decode cX8_sheetRefusal 8 = .ok (.ireturn, 1) := by decide +kernel
theorem dX8_sheetRefusal_9 : decode cX8_sheetRefusal 9 = .ok (.aload_n 0, 1) := by decide +kernel
theorem dX8_sheetRefusal_10 : decode cX8_sheetRefusal 10 = .ok (.getfield 24, 3) := by decide +kernel
theorem dX8_sheetRefusal_13 : decode cX8_sheetRefusal 13 = .ok (.iload_n 1, 1) := by decide +kernel
theorem dX8_sheetRefusal_14 : decode cX8_sheetRefusal 14 = .ok (.aaload, 1) := by decide +kernel
theorem dX8_sheetRefusal_15 : decode cX8_sheetRefusal 15 = .ok (.invokevirtual 270, 3) := by decide +kernel
theorem dX8_sheetRefusal_18 : decode cX8_sheetRefusal 18 = .ok (.ifCond .eq 7, 3) := by decide +kernel
theorem dX8_sheetRefusal_21 : decode cX8_sheetRefusal 21 = .ok (.iconst 2, 1) := by decide +kernel
theorem dX8_sheetRefusal_22 : decode cX8_sheetRefusal 22 = .ok (.goto 4, 3) := by decide +kernel
theorem dX8_sheetRefusal_25 : decode cX8_sheetRefusal 25 = .ok (.iconst 0, 1) := by decide +kernel
theorem dX8_sheetRefusal_26 : decode cX8_sheetRefusal 26 = .ok (.ireturn, 1) := by decide +kernel
theorem dX8_within_0 : decode cX8_within 0 = .ok (.iload_n 0, 1) := by decide +kernel
theorem dX8_within_1 : decode cX8_within 1 = .ok (.iload_n 1, 1) := by decide +kernel
theorem dX8_within_2 : decode cX8_within 2 = .ok (.if_icmp .lt 12, 3) := by decide +kernel
theorem dX8_within_5 : decode cX8_within 5 = .ok (.iload_n 0, 1) := by decide +kernel
theorem dX8_within_6 : decode cX8_within 6 = .ok (.iload_n 2, 1) := by decide +kernel
theorem dX8_within_7 : decode cX8_within 7 = .ok (.if_icmp .gt 7, 3) := by decide +kernel
theorem dX8_within_10 : decode cX8_within 10 = .ok (.iconst 1, 1) := by decide +kernel
theorem dX8_within_11 : decode cX8_within 11 = .ok (.goto 4, 3) := by decide +kernel
theorem dX8_within_14 : decode cX8_within 14 = .ok (.iconst 0, 1) := by decide +kernel
theorem dX8_within_15 : decode cX8_within 15 = .ok (.ireturn, 1) := by decide +kernel
theorem dX8_hold_0 : decode cX8_hold 0 = .ok (.iload_n 0, 1) := by decide +kernel
theorem dX8_hold_1 : decode cX8_hold 1 = .ok (.iload_n 1, 1) := by decide +kernel
theorem dX8_hold_2 : decode cX8_hold 2 = .ok (.if_icmp .ge 5, 3) := by decide +kernel
theorem dX8_hold_5 : decode cX8_hold 5 = .ok (.iload_n 1, 1) := by decide +kernel
theorem dX8_hold_6 : decode cX8_hold 6 = .ok (.ireturn, 1) := by decide +kernel
theorem dX8_hold_7 : decode cX8_hold 7 = .ok (.iload_n 0, 1) := by decide +kernel
theorem dX8_hold_8 : decode cX8_hold 8 = .ok (.iload_n 2, 1) := by decide +kernel
theorem dX8_hold_9 : decode cX8_hold 9 = .ok (.if_icmp .le 7, 3) := by decide +kernel
theorem dX8_hold_12 : decode cX8_hold 12 = .ok (.iload_n 2, 1) := by decide +kernel
theorem dX8_hold_13 : decode cX8_hold 13 = .ok (.goto 4, 3) := by decide +kernel
theorem dX8_hold_16 : decode cX8_hold 16 = .ok (.iload_n 0, 1) := by decide +kernel
theorem dX8_hold_17 : decode cX8_hold 17 = .ok (.ireturn, 1) := by decide +kernel
theorem dX8_isGood_0 : decode cX8_isGood 0 = .ok (.iload_n 0, 1) := by decide +kernel
theorem dX8_isGood_1 : decode cX8_isGood 1 = .ok (.iconst 0, 1) := by decide +kernel
theorem dX8_isGood_2 : decode cX8_isGood 2 = .ok (.iconst 5, 1) := by decide +kernel
theorem dX8_isGood_3 : decode cX8_isGood 3 = .ok (.invokestatic 58, 3) := by decide +kernel
theorem dX8_isGood_6 : decode cX8_isGood 6 = .ok (.ireturn, 1) := by decide +kernel
theorem dX8_isUse_0 : decode cX8_isUse 0 = .ok (.iload_n 0, 1) := by decide +kernel
theorem dX8_isUse_1 : decode cX8_isUse 1 = .ok (.iconst 0, 1) := by decide +kernel
theorem dX8_isUse_2 : decode cX8_isUse 2 = .ok (.iconst 1, 1) := by decide +kernel
theorem dX8_isUse_3 : decode cX8_isUse 3 = .ok (.invokestatic 58, 3) := by decide +kernel
theorem dX8_isUse_6 : decode cX8_isUse 6 = .ok (.ireturn, 1) := by decide +kernel
theorem dX8_isSheet_0 : decode cX8_isSheet 0 = .ok (.iload_n 0, 1) := by decide +kernel
theorem dX8_isSheet_1 : decode cX8_isSheet 1 = .ok (.iconst 0, 1) := by decide +kernel
theorem dX8_isSheet_2 : decode cX8_isSheet 2 = .ok (.iconst 3, 1) := by decide +kernel
theorem dX8_isSheet_3 : decode cX8_isSheet 3 = .ok (.invokestatic 58, 3) := by decide +kernel
theorem dX8_isSheet_6 : decode cX8_isSheet 6 = .ok (.ireturn, 1) := by decide +kernel
theorem dX8_isCustomer_0 : decode cX8_isCustomer 0 = .ok (.iload_n 1, 1) := by decide +kernel
theorem dX8_isCustomer_1 : decode cX8_isCustomer 1 = .ok (.bipush 10, 2) := by decide +kernel
theorem dX8_isCustomer_3 : decode cX8_isCustomer 3 = .ok (.bipush 121, 2) := by decide +kernel
theorem dX8_isCustomer_5 : decode cX8_isCustomer 5 = .ok (.invokestatic 58, 3) := by decide +kernel
theorem dX8_isCustomer_8 : decode cX8_isCustomer 8 = .ok (.ifCond .eq 15, 3) := by decide +kernel
theorem dX8_isCustomer_11 : decode cX8_isCustomer 11 = .ok (.iload_n 1, 1) := by decide +kernel
theorem dX8_isCustomer_12 : decode cX8_isCustomer 12 = .ok (.bipush 10, 2) := by decide +kernel
theorem dX8_isCustomer_14 : decode cX8_isCustomer 14 = .ok (.irem, 1) := by decide +kernel
theorem dX8_isCustomer_15 : decode cX8_isCustomer 15 = .ok (.iconst 1, 1) := by decide +kernel
theorem dX8_isCustomer_16 : decode cX8_isCustomer 16 = .ok (.if_icmp .gt 7, 3) := by decide +kernel
theorem dX8_isCustomer_19 : decode cX8_isCustomer 19 = .ok (.iconst 1, 1) := by decide +kernel
theorem dX8_isCustomer_20 : decode cX8_isCustomer 20 = .ok (.goto 4, 3) := by decide +kernel
theorem dX8_isCustomer_23 : decode cX8_isCustomer 23 = .ok (.iconst 0, 1) := by decide +kernel
theorem dX8_isCustomer_24 : decode cX8_isCustomer 24 = .ok (.istore_n 3, 1) := by decide +kernel
theorem dX8_isCustomer_25 : decode cX8_isCustomer 25 = .ok (.iload_n 0, 1) := by decide +kernel
theorem dX8_isCustomer_26 : decode cX8_isCustomer 26 = .ok (.iconst 0, 1) := by decide +kernel
theorem dX8_isCustomer_27 : decode cX8_isCustomer 27 = .ok (.bipush 63, 2) := by decide +kernel
theorem dX8_isCustomer_29 : decode cX8_isCustomer 29 = .ok (.invokestatic 58, 3) := by decide +kernel
theorem dX8_isCustomer_32 : decode cX8_isCustomer 32 = .ok (.ifCond .eq 22, 3) := by decide +kernel
theorem dX8_isCustomer_35 : decode cX8_isCustomer 35 = .ok (.iload_n 3, 1) := by decide +kernel
theorem dX8_isCustomer_36 : decode cX8_isCustomer 36 = .ok (.ifCond .eq 18, 3) := by decide +kernel
theorem dX8_isCustomer_39 : decode cX8_isCustomer 39 = .ok (.iload_n 2, 1) := by decide +kernel
theorem dX8_isCustomer_40 : decode cX8_isCustomer 40 = .ok (.iconst 0, 1) := by decide +kernel
theorem dX8_isCustomer_41 : decode cX8_isCustomer 41 = .ok (.sipush 999, 3) := by decide +kernel
theorem dX8_isCustomer_44 : decode cX8_isCustomer 44 = .ok (.invokestatic 58, 3) := by decide +kernel
theorem dX8_isCustomer_47 : decode cX8_isCustomer 47 = .ok (.ifCond .eq 7, 3) := by decide +kernel
theorem dX8_isCustomer_50 : decode cX8_isCustomer 50 = .ok (.iconst 1, 1) := by decide +kernel
theorem dX8_isCustomer_51 : decode cX8_isCustomer 51 = .ok (.goto 4, 3) := by decide +kernel
theorem dX8_isCustomer_54 : decode cX8_isCustomer 54 = .ok (.iconst 0, 1) := by decide +kernel
theorem dX8_isCustomer_55 : decode cX8_isCustomer 55 = .ok (.ireturn, 1) := by decide +kernel
theorem dX8_isUnder_0 : decode cX8_isUnder 0 = .ok (.iload_n 0, 1) := by decide +kernel
theorem dX8_isUnder_1 : decode cX8_isUnder 1 = .ok (.istore_n 2, 1) := by decide +kernel
theorem dX8_isUnder_2 : decode cX8_isUnder 2 = .ok (.iconst 0, 1) := by decide +kernel
theorem dX8_isUnder_3 : decode cX8_isUnder 3 = .ok (.istore_n 3, 1) := by decide +kernel
theorem dX8_isUnder_4 : decode cX8_isUnder 4 = .ok (.iload_n 3, 1) := by decide +kernel
theorem dX8_isUnder_5 : decode cX8_isUnder 5 = .ok (.bipush 7, 2) := by decide +kernel
theorem dX8_isUnder_7 : decode cX8_isUnder 7 = .ok (.if_icmp .ge 32, 3) := by decide +kernel
theorem dX8_isUnder_10 : decode cX8_isUnder 10 = .ok (.iload_n 2, 1) := by decide +kernel
theorem dX8_isUnder_11 : decode cX8_isUnder 11 = .ok (.iconst 0, 1) := by decide +kernel
theorem dX8_isUnder_12 : decode cX8_isUnder 12 = .ok (.bipush 6, 2) := by decide +kernel
theorem dX8_isUnder_14 : decode cX8_isUnder 14 = .ok (.invokestatic 58, 3) := by decide +kernel
theorem dX8_isUnder_17 : decode cX8_isUnder 17 = .ok (.ifCond .eq 22, 3) := by decide +kernel
theorem dX8_isUnder_20 : decode cX8_isUnder 20 = .ok (.iload_n 2, 1) := by decide +kernel
theorem dX8_isUnder_21 : decode cX8_isUnder 21 = .ok (.iload_n 1, 1) := by decide +kernel
theorem dX8_isUnder_22 : decode cX8_isUnder 22 = .ok (.if_icmp .ne 5, 3) := by decide +kernel
theorem dX8_isUnder_25 : decode cX8_isUnder 25 = .ok (.iconst 1, 1) := by decide +kernel
theorem dX8_isUnder_26 : decode cX8_isUnder 26 = .ok (.ireturn, 1) := by decide +kernel
theorem dX8_isUnder_27 : decode cX8_isUnder 27 = .ok (.getstatic 330, 3) := by decide +kernel
theorem dX8_isUnder_30 : decode cX8_isUnder 30 = .ok (.iload_n 2, 1) := by decide +kernel
theorem dX8_isUnder_31 : decode cX8_isUnder 31 = .ok (.iaload, 1) := by decide +kernel
theorem dX8_isUnder_32 : decode cX8_isUnder 32 = .ok (.istore_n 2, 1) := by decide +kernel
theorem dX8_isUnder_33 : decode cX8_isUnder 33 = .ok (.iinc 3 1, 3) := by decide +kernel
theorem dX8_isUnder_36 : decode cX8_isUnder 36 = .ok (.goto (-32), 3) := by decide +kernel
theorem dX8_isUnder_39 : decode cX8_isUnder 39 = .ok (.iconst 0, 1) := by decide +kernel
theorem dX8_isUnder_40 : decode cX8_isUnder 40 = .ok (.ireturn, 1) := by decide +kernel
theorem dX8_mostOf_0 : decode cX8_mostOf 0 = .ok (.iload_n 0, 1) := by decide +kernel
theorem dX8_mostOf_1 : decode cX8_mostOf 1 = .ok (.ifCond .ne 6, 3) := by decide +kernel
theorem dX8_mostOf_4 : decode cX8_mostOf 4 = .ok (.bipush 6, 2) := by decide +kernel
theorem dX8_mostOf_6 : decode cX8_mostOf 6 = .ok (.ireturn, 1) := by decide +kernel
theorem dX8_mostOf_7 : decode cX8_mostOf 7 = .ok (.iload_n 0, 1) := by decide +kernel
theorem dX8_mostOf_8 : decode cX8_mostOf 8 = .ok (.iconst 1, 1) := by decide +kernel
theorem dX8_mostOf_9 : decode cX8_mostOf 9 = .ok (.if_icmp .ne 6, 3) := by decide +kernel
theorem dX8_mostOf_12 : decode cX8_mostOf 12 = .ok (.bipush 9, 2) := by decide +kernel
theorem dX8_mostOf_14 : decode cX8_mostOf 14 = .ok (.ireturn, 1) := by decide +kernel
theorem dX8_mostOf_15 : decode cX8_mostOf 15 = .ok (.iload_n 0, 1) := by decide +kernel
theorem dX8_mostOf_16 : decode cX8_mostOf 16 = .ok (.iconst 3, 1) := by decide +kernel
theorem dX8_mostOf_17 : decode cX8_mostOf 17 = .ok (.bipush 8, 2) := by decide +kernel
theorem dX8_mostOf_19 : decode cX8_mostOf 19 = .ok (.invokestatic 58, 3) := by decide +kernel
theorem dX8_mostOf_22 : decode cX8_mostOf 22 = .ok (.ifCond .eq 6, 3) := by decide +kernel
theorem dX8_mostOf_25 : decode cX8_mostOf 25 = .ok (.bipush 9, 2) := by decide +kernel
theorem dX8_mostOf_27 : decode cX8_mostOf 27 = .ok (.ireturn, 1) := by decide +kernel
theorem dX8_mostOf_28 : decode cX8_mostOf 28 = .ok (.iload_n 0, 1) := by decide +kernel
theorem dX8_mostOf_29 : decode cX8_mostOf 29 = .ok (.bipush 9, 2) := by decide +kernel
theorem dX8_mostOf_31 : decode cX8_mostOf 31 = .ok (.bipush 14, 2) := by decide +kernel
theorem dX8_mostOf_33 : decode cX8_mostOf 33 = .ok (.invokestatic 58, 3) := by decide +kernel
theorem dX8_mostOf_36 : decode cX8_mostOf 36 = .ok (.ifCond .eq 8, 3) := by decide +kernel
theorem dX8_mostOf_39 : decode cX8_mostOf 39 = .ok (.bipush 99, 2) := by decide +kernel
theorem dX8_mostOf_41 : decode cX8_mostOf 41 = .ok (.goto 4, 3) := by decide +kernel
theorem dX8_mostOf_44 : decode cX8_mostOf 44 = .ok (.iconst (-1), 1) := by decide +kernel
theorem dX8_mostOf_45 : decode cX8_mostOf 45 = .ok (.ireturn, 1) := by decide +kernel
