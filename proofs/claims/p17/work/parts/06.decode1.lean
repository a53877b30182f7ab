theorem bw_cX11_init_0 : dq_w cX11_init 0 [42, 183, 0, 1, 42, 187, 0, 7, 89, 183, 0, 9, 181, 0, 10, 42, 187, 0, 16, 89, 183, 0, 18, 181, 0, 19, 42] = true := by decide +kernel
theorem dX11_init_0 : decode cX11_init 0 = .ok (.aload_n 0, 1) := dq42 bw_cX11_init_0 0 rfl rfl
theorem dX11_init_1 : decode cX11_init 1 = .ok (.invokespecial 1, 3) := dq183 bw_cX11_init_0 1 rfl rfl rfl
theorem dX11_init_4 : decode cX11_init 4 = .ok (.aload_n 0, 1) := dq42 bw_cX11_init_0 4 rfl rfl
theorem dX11_init_5 : decode cX11_init 5 = .ok (.new 7, 3) := dq187 bw_cX11_init_0 5 rfl rfl rfl
theorem dX11_init_8 : decode cX11_init 8 = .ok (.dup, 1) := dq89 bw_cX11_init_0 8 rfl rfl
theorem dX11_init_9 : decode cX11_init 9 = .ok (.invokespecial 9, 3) := dq183 bw_cX11_init_0 9 rfl rfl rfl
theorem dX11_init_12 : decode cX11_init 12 = .ok (.putfield 10, 3) := dq181 bw_cX11_init_0 12 rfl rfl rfl
theorem dX11_init_15 : decode cX11_init 15 = .ok (.aload_n 0, 1) := dq42 bw_cX11_init_0 15 rfl rfl
theorem dX11_init_16 : decode cX11_init 16 = .ok (.new 16, 3) := dq187 bw_cX11_init_0 16 rfl rfl rfl
theorem dX11_init_19 : decode cX11_init 19 = .ok (.dup, 1) := dq89 bw_cX11_init_0 19 rfl rfl
theorem dX11_init_20 : decode cX11_init 20 = .ok (.invokespecial 18, 3) := dq183 bw_cX11_init_0 20 rfl rfl rfl
theorem dX11_init_23 : decode cX11_init 23 = .ok (.putfield 19, 3) := dq181 bw_cX11_init_0 23 rfl rfl rfl
theorem bw_cX11_init_1 : dq_w cX11_init 24 [0, 19, 42, 187, 0, 23, 89, 183, 0, 25, 181, 0, 26, 42, 187, 0, 30, 89, 183, 0, 32, 181, 0, 33, 42, 187, 0] = true := by decide +kernel
theorem dX11_init_26 : decode cX11_init 26 = .ok (.aload_n 0, 1) := dq42 bw_cX11_init_1 2 rfl rfl
theorem dX11_init_27 : decode cX11_init 27 = .ok (.new 23, 3) := dq187 bw_cX11_init_1 3 rfl rfl rfl
theorem dX11_init_30 : decode cX11_init 30 = .ok (.dup, 1) := dq89 bw_cX11_init_1 6 rfl rfl
theorem dX11_init_31 : decode cX11_init 31 = .ok (.invokespecial 25, 3) := dq183 bw_cX11_init_1 7 rfl rfl rfl
theorem dX11_init_34 : decode cX11_init 34 = .ok (.putfield 26, 3) := dq181 bw_cX11_init_1 10 rfl rfl rfl
theorem dX11_init_37 : decode cX11_init 37 = .ok (.aload_n 0, 1) := dq42 bw_cX11_init_1 13 rfl rfl
theorem dX11_init_38 : decode cX11_init 38 = .ok (.new 30, 3) := dq187 bw_cX11_init_1 14 rfl rfl rfl
theorem dX11_init_41 : decode cX11_init 41 = .ok (.dup, 1) := dq89 bw_cX11_init_1 17 rfl rfl
theorem dX11_init_42 : decode cX11_init 42 = .ok (.invokespecial 32, 3) := dq183 bw_cX11_init_1 18 rfl rfl rfl
theorem dX11_init_45 : decode cX11_init 45 = .ok (.putfield 33, 3) := dq181 bw_cX11_init_1 21 rfl rfl rfl
theorem bw_cX11_init_2 : dq_w cX11_init 48 [42, 187, 0, 30, 89, 183, 0, 32, 181, 0, 37, 42, 187, 0, 40, 89, 183, 0, 42, 181, 0, 43, 42, 5, 189, 0, 47] = true := by decide +kernel
theorem dX11_init_48 : decode cX11_init 48 = .ok (.aload_n 0, 1) := dq42 bw_cX11_init_2 0 rfl rfl
theorem dX11_init_49 : decode cX11_init 49 = .ok (.new 30, 3) := dq187 bw_cX11_init_2 1 rfl rfl rfl
theorem dX11_init_52 : decode cX11_init 52 = .ok (.dup, 1) := dq89 bw_cX11_init_2 4 rfl rfl
theorem dX11_init_53 : decode cX11_init 53 = .ok (.invokespecial 32, 3) := dq183 bw_cX11_init_2 5 rfl rfl rfl
theorem dX11_init_56 : decode cX11_init 56 = .ok (.putfield 37, 3) := dq181 bw_cX11_init_2 8 rfl rfl rfl
theorem dX11_init_59 : decode cX11_init 59 = .ok (.aload_n 0, 1) := dq42 bw_cX11_init_2 11 rfl rfl
theorem dX11_init_60 : decode cX11_init 60 = .ok (.new 40, 3) := dq187 bw_cX11_init_2 12 rfl rfl rfl
theorem dX11_init_63 : decode cX11_init 63 = .ok (.dup, 1) := dq89 bw_cX11_init_2 15 rfl rfl
theorem dX11_init_64 : decode cX11_init 64 = .ok (.invokespecial 42, 3) := dq183 bw_cX11_init_2 16 rfl rfl rfl
theorem dX11_init_67 : decode cX11_init 67 = .ok (.putfield 43, 3) := dq181 bw_cX11_init_2 19 rfl rfl rfl
theorem dX11_init_70 : decode cX11_init 70 = .ok (.aload_n 0, 1) := dq42 bw_cX11_init_2 22 rfl rfl
theorem dX11_init_71 : decode cX11_init 71 = .ok (.iconst 2, 1) := dq5 bw_cX11_init_2 23 rfl rfl
theorem bw_cX11_init_3 : dq_w cX11_init 72 [189, 0, 47, 181, 0, 49, 42, 187, 0, 53, 89, 183, 0, 55, 181, 0, 56, 42, 187, 0, 60, 89, 183, 0, 62, 181, 0] = true := by decide +kernel
theorem dX11_init_72 : decode cX11_init 72 = .ok (.anewarray 47, 3) := dq189 bw_cX11_init_3 0 rfl rfl rfl
theorem dX11_init_75 : decode cX11_init 75 = .ok (.putfield 49, 3) := dq181 bw_cX11_init_3 3 rfl rfl rfl
theorem dX11_init_78 : decode cX11_init 78 = .ok (.aload_n 0, 1) := dq42 bw_cX11_init_3 6 rfl rfl
theorem dX11_init_79 : decode cX11_init 79 = .ok (.new 53, 3) := dq187 bw_cX11_init_3 7 rfl rfl rfl
theorem dX11_init_82 : decode cX11_init 82 = .ok (.dup, 1) := dq89 bw_cX11_init_3 10 rfl rfl
theorem dX11_init_83 : decode cX11_init 83 = .ok (.invokespecial 55, 3) := dq183 bw_cX11_init_3 11 rfl rfl rfl
theorem dX11_init_86 : decode cX11_init 86 = .ok (.putfield 56, 3) := dq181 bw_cX11_init_3 14 rfl rfl rfl
theorem dX11_init_89 : decode cX11_init 89 = .ok (.aload_n 0, 1) := dq42 bw_cX11_init_3 17 rfl rfl
theorem dX11_init_90 : decode cX11_init 90 = .ok (.new 60, 3) := dq187 bw_cX11_init_3 18 rfl rfl rfl
theorem dX11_init_93 : decode cX11_init 93 = .ok (.dup, 1) := dq89 bw_cX11_init_3 21 rfl rfl
theorem dX11_init_94 : decode cX11_init 94 = .ok (.invokespecial 62, 3) := dq183 bw_cX11_init_3 22 rfl rfl rfl
theorem bw_cX11_init_4 : dq_w cX11_init 96 [62, 181, 0, 63, 42, 187, 0, 67, 89, 183, 0, 69, 181, 0, 70, 42, 187, 0, 74, 89, 183, 0, 76, 181, 0, 77, 42] = true := by decide +kernel
theorem dX11_init_97 : decode cX11_init 97 = .ok (.putfield 63, 3) := dq181 bw_cX11_init_4 1 rfl rfl rfl
theorem dX11_init_100 : decode cX11_init 100 = .ok (.aload_n 0, 1) := dq42 bw_cX11_init_4 4 rfl rfl
theorem dX11_init_101 : decode cX11_init 101 = .ok (.new 67, 3) := dq187 bw_cX11_init_4 5 rfl rfl rfl
theorem dX11_init_104 : decode cX11_init 104 = .ok (.dup, 1) := dq89 bw_cX11_init_4 8 rfl rfl
theorem dX11_init_105 : decode cX11_init 105 = .ok (.invokespecial 69, 3) := dq183 bw_cX11_init_4 9 rfl rfl rfl
theorem dX11_init_108 : decode cX11_init 108 = .ok (.putfield 70, 3) := dq181 bw_cX11_init_4 12 rfl rfl rfl
theorem dX11_init_111 : decode cX11_init 111 = .ok (.aload_n 0, 1) := dq42 bw_cX11_init_4 15 rfl rfl
theorem dX11_init_112 : decode cX11_init 112 = .ok (.new 74, 3) := dq187 bw_cX11_init_4 16 rfl rfl rfl
theorem dX11_init_115 : decode cX11_init 115 = .ok (.dup, 1) := dq89 bw_cX11_init_4 19 rfl rfl
theorem dX11_init_116 : decode cX11_init 116 = .ok (.invokespecial 76, 3) := dq183 bw_cX11_init_4 20 rfl rfl rfl
theorem dX11_init_119 : decode cX11_init 119 = .ok (.putfield 77, 3) := dq181 bw_cX11_init_4 23 rfl rfl rfl
theorem bw_cX11_init_5 : dq_w cX11_init 120 [0, 77, 42, 6, 189, 0, 30, 181, 0, 81, 42, 6, 188, 4, 181, 0, 85, 3, 60, 27, 5, 162, 0, 22, 42, 180, 0] = true := by decide +kernel
theorem dX11_init_122 : decode cX11_init 122 = .ok (.aload_n 0, 1) := dq42 bw_cX11_init_5 2 rfl rfl
theorem dX11_init_123 : decode cX11_init 123 = .ok (.iconst 3, 1) := dq6 bw_cX11_init_5 3 rfl rfl
theorem dX11_init_124 : decode cX11_init 124 = .ok (.anewarray 30, 3) := dq189 bw_cX11_init_5 4 rfl rfl rfl
theorem dX11_init_127 : decode cX11_init 127 = .ok (.putfield 81, 3) := dq181 bw_cX11_init_5 7 rfl rfl rfl
theorem dX11_init_130 : decode cX11_init 130 = .ok (.aload_n 0, 1) := dq42 bw_cX11_init_5 10 rfl rfl
theorem dX11_init_131 : decode cX11_init 131 = .ok (.iconst 3, 1) := dq6 bw_cX11_init_5 11 rfl rfl
theorem dX11_init_132 : decode cX11_init 132 = .ok (.newarray .boolean, 2) := dq188_4 bw_cX11_init_5 12 rfl rfl
theorem dX11_init_134 : decode cX11_init 134 = .ok (.putfield 85, 3) := dq181 bw_cX11_init_5 14 rfl rfl rfl
theorem dX11_init_137 : decode cX11_init 137 = .ok (.iconst 0, 1) := dq3 bw_cX11_init_5 17 rfl rfl
theorem dX11_init_138 : decode cX11_init 138 = .ok (.istore_n 1, 1) := dq60 bw_cX11_init_5 18 rfl rfl
theorem dX11_init_139 : decode cX11_init 139 = .ok (.iload_n 1, 1) := dq27 bw_cX11_init_5 19 rfl rfl
theorem dX11_init_140 : decode cX11_init 140 = .ok (.iconst 2, 1) := dq5 bw_cX11_init_5 20 rfl rfl
theorem dX11_init_141 : decode cX11_init 141 = .ok (.if_icmp .ge 22, 3) := dq162 bw_cX11_init_5 21 rfl rfl rfl
theorem bw_cX11_init_6 : dq_w cX11_init 144 [42, 180, 0, 49, 27, 187, 0, 47, 89, 183, 0, 89, 83, 132, 1, 1, 167, 255, 235, 3, 60, 27, 6, 162, 0, 22, 42] = true := by decide +kernel
theorem dX11_init_144 : decode cX11_init 144 = .ok (.aload_n 0, 1) := dq42 bw_cX11_init_6 0 rfl rfl
theorem dX11_init_145 : decode cX11_init 145 = .ok (.getfield 49, 3) := dq180 bw_cX11_init_6 1 rfl rfl rfl
theorem dX11_init_148 : decode cX11_init 148 = .ok (.iload_n 1, 1) := dq27 bw_cX11_init_6 4 rfl rfl
theorem dX11_init_149 : decode cX11_init 149 = .ok (.new 47, 3) := dq187 bw_cX11_init_6 5 rfl rfl rfl
theorem dX11_init_152 : decode cX11_init 152 = .ok (.dup, 1) := dq89 bw_cX11_init_6 8 rfl rfl
theorem dX11_init_153 : decode cX11_init 153 = .ok (.invokespecial 89, 3) := dq183 bw_cX11_init_6 9 rfl rfl rfl
theorem dX11_init_156 : decode cX11_init 156 = .ok (.aastore, 1) := dq83 bw_cX11_init_6 12 rfl rfl
theorem dX11_init_157 : decode cX11_init 157 = .ok (.iinc 1 1, 3) := dq132 bw_cX11_init_6 13 rfl rfl rfl
theorem dX11_init_160 : decode cX11_init 160 = .ok (.goto (-21), 3) := dq167 bw_cX11_init_6 16 rfl rfl rfl
theorem dX11_init_163 : decode cX11_init 163 = .ok (.iconst 0, 1) := dq3 bw_cX11_init_6 19 rfl rfl
theorem dX11_init_164 : decode cX11_init 164 = .ok (.istore_n 1, 1) := dq60 bw_cX11_init_6 20 rfl rfl
theorem dX11_init_165 : decode cX11_init 165 = .ok (.iload_n 1, 1) := dq27 bw_cX11_init_6 21 rfl rfl
theorem dX11_init_166 : decode cX11_init 166 = .ok (.iconst 3, 1) := dq6 bw_cX11_init_6 22 rfl rfl
theorem dX11_init_167 : decode cX11_init 167 = .ok (.if_icmp .ge 22, 3) := dq162 bw_cX11_init_6 23 rfl rfl rfl
theorem bw_cX11_init_7 : dq_w cX11_init 168 [0, 22, 42, 180, 0, 81, 27, 187, 0, 30, 89, 183, 0, 32, 83, 132, 1, 1, 167, 255, 235, 177] = true := by decide +kernel
theorem dX11_init_170 : decode cX11_init 170 = .ok (.aload_n 0, 1) := dq42 bw_cX11_init_7 2 rfl rfl
theorem dX11_init_171 : decode cX11_init 171 = .ok (.getfield 81, 3) := dq180 bw_cX11_init_7 3 rfl rfl rfl
theorem dX11_init_174 : decode cX11_init 174 = .ok (.iload_n 1, 1) := dq27 bw_cX11_init_7 6 rfl rfl
theorem dX11_init_175 : decode cX11_init 175 = .ok (.new 30, 3) := dq187 bw_cX11_init_7 7 rfl rfl rfl
theorem dX11_init_178 : decode cX11_init 178 = .ok (.dup, 1) := dq89 bw_cX11_init_7 10 rfl rfl
theorem dX11_init_179 : decode cX11_init 179 = .ok (.invokespecial 32, 3) := dq183 bw_cX11_init_7 11 rfl rfl rfl
theorem dX11_init_182 : decode cX11_init 182 = .ok (.aastore, 1) := dq83 bw_cX11_init_7 14 rfl rfl
theorem dX11_init_183 : decode cX11_init 183 = .ok (.iinc 1 1, 3) := dq132 bw_cX11_init_7 15 rfl rfl rfl
theorem dX11_init_186 : decode cX11_init 186 = .ok (.goto (-21), 3) := dq167 bw_cX11_init_7 18 rfl rfl rfl
theorem dX11_init_189 : decode cX11_init 189 = .ok (.return_, 1) := dq177 bw_cX11_init_7 21 rfl rfl
theorem bw_cX8_init_0 : dq_w cX8_init 0 [42, 183, 0, 3, 42, 16, 80, 188, 5, 181, 0, 9, 42, 3, 181, 0, 15, 42, 3, 181, 0, 19, 42, 3, 181, 0, 22] = true := by decide +kernel
theorem dX8_init_0 : decode cX8_init 0 = .ok (.aload_n 0, 1) := dq42 bw_cX8_init_0 0 rfl rfl
theorem dX8_init_1 : decode cX8_init 1 = .ok (.invokespecial 3, 3) := dq183 bw_cX8_init_0 1 rfl rfl rfl
theorem dX8_init_4 : decode cX8_init 4 = .ok (.aload_n 0, 1) := dq42 bw_cX8_init_0 4 rfl rfl
theorem dX8_init_5 : decode cX8_init 5 = .ok (.bipush 80, 2) := dq16 bw_cX8_init_0 5 rfl rfl rfl
theorem dX8_init_7 : decode cX8_init 7 = .ok (.newarray .char, 2) := dq188_5 bw_cX8_init_0 7 rfl rfl
theorem dX8_init_9 : decode cX8_init 9 = .ok (.putfield 9, 3) := dq181 bw_cX8_init_0 9 rfl rfl rfl
theorem dX8_init_12 : decode cX8_init 12 = .ok (.aload_n 0, 1) := dq42 bw_cX8_init_0 12 rfl rfl
theorem dX8_init_13 : decode cX8_init 13 = .ok (.iconst 0, 1) := dq3 bw_cX8_init_0 13 rfl rfl
theorem dX8_init_14 : decode cX8_init 14 = .ok (.putfield 15, 3) := dq181 bw_cX8_init_0 14 rfl rfl rfl
theorem dX8_init_17 : decode cX8_init 17 = .ok (.aload_n 0, 1) := dq42 bw_cX8_init_0 17 rfl rfl
theorem dX8_init_18 : decode cX8_init 18 = .ok (.iconst 0, 1) := dq3 bw_cX8_init_0 18 rfl rfl
theorem dX8_init_19 : decode cX8_init 19 = .ok (.putfield 19, 3) := dq181 bw_cX8_init_0 19 rfl rfl rfl
theorem dX8_init_22 : decode cX8_init 22 = .ok (.aload_n 0, 1) := dq42 bw_cX8_init_0 22 rfl rfl
theorem dX8_init_23 : decode cX8_init 23 = .ok (.iconst 0, 1) := dq3 bw_cX8_init_0 23 rfl rfl
theorem bw_cX8_init_1 : dq_w cX8_init 24 [181, 0, 22, 42, 3, 181, 0, 25, 42, 3, 181, 0, 28, 177] = true := by decide +kernel
theorem dX8_init_24 : decode cX8_init 24 = .ok (.putfield 22, 3) := dq181 bw_cX8_init_1 0 rfl rfl rfl
theorem dX8_init_27 : decode cX8_init 27 = .ok (.aload_n 0, 1) := dq42 bw_cX8_init_1 3 rfl rfl
theorem dX8_init_28 : decode cX8_init 28 = .ok (.iconst 0, 1) := dq3 bw_cX8_init_1 4 rfl rfl
theorem dX8_init_29 : decode cX8_init 29 = .ok (.putfield 25, 3) := dq181 bw_cX8_init_1 5 rfl rfl rfl
theorem dX8_init_32 : decode cX8_init 32 = .ok (.aload_n 0, 1) := dq42 bw_cX8_init_1 8 rfl rfl
theorem dX8_init_33 : decode cX8_init 33 = .ok (.iconst 0, 1) := dq3 bw_cX8_init_1 9 rfl rfl
theorem dX8_init_34 : decode cX8_init 34 = .ok (.putfield 28, 3) := dq181 bw_cX8_init_1 10 rfl rfl rfl
theorem dX8_init_37 : decode cX8_init 37 = .ok (.return_, 1) := dq177 bw_cX8_init_1 13 rfl rfl
theorem bw_cX2_init_0 : dq_w cX2_init 0 [42, 183, 0, 3, 42, 3, 181, 0, 9, 42, 3, 181, 0, 15, 42, 16, 9, 181, 0, 18, 42, 17, 2, 88, 181, 0, 21] = true := by decide +kernel
theorem dX2_init_0 : decode cX2_init 0 = .ok (.aload_n 0, 1) := dq42 bw_cX2_init_0 0 rfl rfl
theorem dX2_init_1 : decode cX2_init 1 = .ok (.invokespecial 3, 3) := dq183 bw_cX2_init_0 1 rfl rfl rfl
theorem dX2_init_4 : decode cX2_init 4 = .ok (.aload_n 0, 1) := dq42 bw_cX2_init_0 4 rfl rfl
theorem dX2_init_5 : decode cX2_init 5 = .ok (.iconst 0, 1) := dq3 bw_cX2_init_0 5 rfl rfl
theorem dX2_init_6 : decode cX2_init 6 = .ok (.putfield 9, 3) := dq181 bw_cX2_init_0 6 rfl rfl rfl
theorem dX2_init_9 : decode cX2_init 9 = .ok (.aload_n 0, 1) := dq42 bw_cX2_init_0 9 rfl rfl
theorem dX2_init_10 : decode cX2_init 10 = .ok (.iconst 0, 1) := dq3 bw_cX2_init_0 10 rfl rfl
theorem dX2_init_11 : decode cX2_init 11 = .ok (.putfield 15, 3) := dq181 bw_cX2_init_0 11 rfl rfl rfl
theorem dX2_init_14 : decode cX2_init 14 = .ok (.aload_n 0, 1) := dq42 bw_cX2_init_0 14 rfl rfl
theorem dX2_init_15 : decode cX2_init 15 = .ok (.bipush 9, 2) := dq16 bw_cX2_init_0 15 rfl rfl rfl
theorem dX2_init_17 : decode cX2_init 17 = .ok (.putfield 18, 3) := dq181 bw_cX2_init_0 17 rfl rfl rfl
theorem dX2_init_20 : decode cX2_init 20 = .ok (.aload_n 0, 1) := dq42 bw_cX2_init_0 20 rfl rfl
theorem dX2_init_21 : decode cX2_init 21 = .ok (.sipush 600, 3) := dq17 bw_cX2_init_0 21 rfl rfl rfl
theorem bw_cX2_init_1 : dq_w cX2_init 24 [181, 0, 21, 42, 16, 10, 188, 10, 181, 0, 24, 42, 16, 10, 188, 10, 181, 0, 28, 42, 16, 14, 188, 10, 181, 0, 31] = true := by decide +kernel
theorem dX2_init_24 : decode cX2_init 24 = .ok (.putfield 21, 3) := dq181 bw_cX2_init_1 0 rfl rfl rfl
theorem dX2_init_27 : decode cX2_init 27 = .ok (.aload_n 0, 1) := dq42 bw_cX2_init_1 3 rfl rfl
theorem dX2_init_28 : decode cX2_init 28 = .ok (.bipush 10, 2) := dq16 bw_cX2_init_1 4 rfl rfl rfl
theorem dX2_init_30 : decode cX2_init 30 = .ok (.newarray .int, 2) := dq188_10 bw_cX2_init_1 6 rfl rfl
theorem dX2_init_32 : decode cX2_init 32 = .ok (.putfield 24, 3) := dq181 bw_cX2_init_1 8 rfl rfl rfl
theorem dX2_init_35 : decode cX2_init 35 = .ok (.aload_n 0, 1) := dq42 bw_cX2_init_1 11 rfl rfl
theorem dX2_init_36 : decode cX2_init 36 = .ok (.bipush 10, 2) := dq16 bw_cX2_init_1 12 rfl rfl rfl
theorem dX2_init_38 : decode cX2_init 38 = .ok (.newarray .int, 2) := dq188_10 bw_cX2_init_1 14 rfl rfl
theorem dX2_init_40 : decode cX2_init 40 = .ok (.putfield 28, 3) := dq181 bw_cX2_init_1 16 rfl rfl rfl
theorem dX2_init_43 : decode cX2_init 43 = .ok (.aload_n 0, 1) := dq42 bw_cX2_init_1 19 rfl rfl
theorem dX2_init_44 : decode cX2_init 44 = .ok (.bipush 14, 2) := dq16 bw_cX2_init_1 20 rfl rfl rfl
theorem dX2_init_46 : decode cX2_init 46 = .ok (.newarray .int, 2) := dq188_10 bw_cX2_init_1 22 rfl rfl
theorem bw_cX2_init_2 : dq_w cX2_init 48 [181, 0, 31, 42, 16, 14, 188, 10, 181, 0, 34, 42, 16, 14, 188, 10, 181, 0, 37, 42, 16, 14, 188, 10, 181, 0, 40] = true := by decide +kernel
theorem dX2_init_48 : decode cX2_init 48 = .ok (.putfield 31, 3) := dq181 bw_cX2_init_2 0 rfl rfl rfl
theorem dX2_init_51 : decode cX2_init 51 = .ok (.aload_n 0, 1) := dq42 bw_cX2_init_2 3 rfl rfl
theorem dX2_init_52 : decode cX2_init 52 = .ok (.bipush 14, 2) := dq16 bw_cX2_init_2 4 rfl rfl rfl
theorem dX2_init_54 : decode cX2_init 54 = .ok (.newarray .int, 2) := dq188_10 bw_cX2_init_2 6 rfl rfl
theorem dX2_init_56 : decode cX2_init 56 = .ok (.putfield 34, 3) := dq181 bw_cX2_init_2 8 rfl rfl rfl
theorem dX2_init_59 : decode cX2_init 59 = .ok (.aload_n 0, 1) := dq42 bw_cX2_init_2 11 rfl rfl
theorem dX2_init_60 : decode cX2_init 60 = .ok (.bipush 14, 2) := dq16 bw_cX2_init_2 12 rfl rfl rfl
theorem dX2_init_62 : decode cX2_init 62 = .ok (.newarray .int, 2) := dq188_10 bw_cX2_init_2 14 rfl rfl
theorem dX2_init_64 : decode cX2_init 64 = .ok (.putfield 37, 3) := dq181 bw_cX2_init_2 16 rfl rfl rfl
theorem dX2_init_67 : decode cX2_init 67 = .ok (.aload_n 0, 1) := dq42 bw_cX2_init_2 19 rfl rfl
theorem dX2_init_68 : decode cX2_init 68 = .ok (.bipush 14, 2) := dq16 bw_cX2_init_2 20 rfl rfl rfl
theorem dX2_init_70 : decode cX2_init 70 = .ok (.newarray .int, 2) := dq188_10 bw_cX2_init_2 22 rfl rfl
theorem bw_cX2_init_3 : dq_w cX2_init 72 [181, 0, 40, 42, 16, 14, 188, 10, 181, 0, 43, 42, 16, 14, 188, 10, 181, 0, 46, 42, 16, 14, 188, 10, 181, 0, 49] = true := by decide +kernel
theorem dX2_init_72 : decode cX2_init 72 = .ok (.putfield 40, 3) := dq181 bw_cX2_init_3 0 rfl rfl rfl
theorem dX2_init_75 : decode cX2_init 75 = .ok (.aload_n 0, 1) := dq42 bw_cX2_init_3 3 rfl rfl
theorem dX2_init_76 : decode cX2_init 76 = .ok (.bipush 14, 2) := dq16 bw_cX2_init_3 4 rfl rfl rfl
theorem dX2_init_78 : decode cX2_init 78 = .ok (.newarray .int, 2) := dq188_10 bw_cX2_init_3 6 rfl rfl
theorem dX2_init_80 : decode cX2_init 80 = .ok (.putfield 43, 3) := dq181 bw_cX2_init_3 8 rfl rfl rfl
theorem dX2_init_83 : decode cX2_init 83 = .ok (.aload_n 0, 1) := dq42 bw_cX2_init_3 11 rfl rfl
theorem dX2_init_84 : decode cX2_init 84 = .ok (.bipush 14, 2) := dq16 bw_cX2_init_3 12 rfl rfl rfl
theorem dX2_init_86 : decode cX2_init 86 = .ok (.newarray .int, 2) := dq188_10 bw_cX2_init_3 14 rfl rfl
theorem dX2_init_88 : decode cX2_init 88 = .ok (.putfield 46, 3) := dq181 bw_cX2_init_3 16 rfl rfl rfl
theorem dX2_init_91 : decode cX2_init 91 = .ok (.aload_n 0, 1) := dq42 bw_cX2_init_3 19 rfl rfl
theorem dX2_init_92 : decode cX2_init 92 = .ok (.bipush 14, 2) := dq16 bw_cX2_init_3 20 rfl rfl rfl
theorem dX2_init_94 : decode cX2_init 94 = .ok (.newarray .int, 2) := dq188_10 bw_cX2_init_3 22 rfl rfl
theorem bw_cX2_init_4 : dq_w cX2_init 96 [181, 0, 49, 42, 16, 14, 188, 4, 181, 0, 52, 177] = true := by decide +kernel
theorem dX2_init_96 : decode cX2_init 96 = .ok (.putfield 49, 3) := dq181 bw_cX2_init_4 0 rfl rfl rfl
theorem dX2_init_99 : decode cX2_init 99 = .ok (.aload_n 0, 1) := dq42 bw_cX2_init_4 3 rfl rfl
theorem dX2_init_100 : decode cX2_init 100 = .ok (.bipush 14, 2) := dq16 bw_cX2_init_4 4 rfl rfl rfl
theorem dX2_init_102 : decode cX2_init 102 = .ok (.newarray .boolean, 2) := dq188_4 bw_cX2_init_4 6 rfl rfl
theorem dX2_init_104 : decode cX2_init 104 = .ok (.putfield 52, 3) := dq181 bw_cX2_init_4 8 rfl rfl rfl
theorem dX2_init_107 : decode cX2_init 107 = .ok (.return_, 1) := dq177 bw_cX2_init_4 11 rfl rfl
theorem bw_cX5_init_0 : dq_w cX5_init 0 [42, 183, 0, 3, 42, 16, 14, 188, 10, 181, 0, 9, 42, 3, 181, 0, 15, 177] = true := by decide +kernel
theorem dX5_init_0 : decode cX5_init 0 = .ok (.aload_n 0, 1) := dq42 bw_cX5_init_0 0 rfl rfl
theorem dX5_init_1 : decode cX5_init 1 = .ok (.invokespecial 3, 3) := dq183 bw_cX5_init_0 1 rfl rfl rfl
theorem dX5_init_4 : decode cX5_init 4 = .ok (.aload_n 0, 1) := dq42 bw_cX5_init_0 4 rfl rfl
theorem dX5_init_5 : decode cX5_init 5 = .ok (.bipush 14, 2) := dq16 bw_cX5_init_0 5 rfl rfl rfl
theorem dX5_init_7 : decode cX5_init 7 = .ok (.newarray .int, 2) := dq188_10 bw_cX5_init_0 7 rfl rfl
theorem dX5_init_9 : decode cX5_init 9 = .ok (.putfield 9, 3) := dq181 bw_cX5_init_0 9 rfl rfl rfl
theorem dX5_init_12 : decode cX5_init 12 = .ok (.aload_n 0, 1) := dq42 bw_cX5_init_0 12 rfl rfl
theorem dX5_init_13 : decode cX5_init 13 = .ok (.iconst 0, 1) := dq3 bw_cX5_init_0 13 rfl rfl
theorem dX5_init_14 : decode cX5_init 14 = .ok (.putfield 15, 3) := dq181 bw_cX5_init_0 14 rfl rfl rfl
theorem dX5_init_17 : decode cX5_init 17 = .ok (.return_, 1) := dq177 bw_cX5_init_0 17 rfl rfl
theorem bw_cX6_init_0 : dq_w cX6_init 0 [42, 183, 0, 3, 42, 3, 181, 0, 9, 42, 3, 181, 0, 15, 42, 16, 14, 188, 10, 181, 0, 18, 3, 60, 27, 16, 14] = true := by decide +kernel
theorem dX6_init_0 : decode cX6_init 0 = .ok (.aload_n 0, 1) := dq42 bw_cX6_init_0 0 rfl rfl
theorem dX6_init_1 : decode cX6_init 1 = .ok (.invokespecial 3, 3) := dq183 bw_cX6_init_0 1 rfl rfl rfl
theorem dX6_init_4 : decode cX6_init 4 = .ok (.aload_n 0, 1) := dq42 bw_cX6_init_0 4 rfl rfl
theorem dX6_init_5 : decode cX6_init 5 = .ok (.iconst 0, 1) := dq3 bw_cX6_init_0 5 rfl rfl
theorem dX6_init_6 : decode cX6_init 6 = .ok (.putfield 9, 3) := dq181 bw_cX6_init_0 6 rfl rfl rfl
theorem dX6_init_9 : decode cX6_init 9 = .ok (.aload_n 0, 1) := dq42 bw_cX6_init_0 9 rfl rfl
theorem dX6_init_10 : decode cX6_init 10 = .ok (.iconst 0, 1) := dq3 bw_cX6_init_0 10 rfl rfl
theorem dX6_init_11 : decode cX6_init 11 = .ok (.putfield 15, 3) := dq181 bw_cX6_init_0 11 rfl rfl rfl
theorem dX6_init_14 : decode cX6_init 14 = .ok (.aload_n 0, 1) := dq42 bw_cX6_init_0 14 rfl rfl
theorem dX6_init_15 : decode cX6_init 15 = .ok (.bipush 14, 2) := dq16 bw_cX6_init_0 15 rfl rfl rfl
theorem dX6_init_17 : decode cX6_init 17 = .ok (.newarray .int, 2) := dq188_10 bw_cX6_init_0 17 rfl rfl
theorem dX6_init_19 : decode cX6_init 19 = .ok (.putfield 18, 3) := dq181 bw_cX6_init_0 19 rfl rfl rfl
theorem dX6_init_22 : decode cX6_init 22 = .ok (.iconst 0, 1) := dq3 bw_cX6_init_0 22 rfl rfl
theorem dX6_init_23 : decode cX6_init 23 = .ok (.istore_n 1, 1) := dq60 bw_cX6_init_0 23 rfl rfl
theorem bw_cX6_init_1 : dq_w cX6_init 24 [27, 16, 14, 162, 0, 16, 42, 180, 0, 18, 27, 2, 79, 132, 1, 1, 167, 255, 240, 177] = true := by decide +kernel
theorem dX6_init_24 : decode cX6_init 24 = .ok (.iload_n 1, 1) := dq27 bw_cX6_init_1 0 rfl rfl
theorem dX6_init_25 : decode cX6_init 25 = .ok (.bipush 14, 2) := dq16 bw_cX6_init_1 1 rfl rfl rfl
theorem dX6_init_27 : decode cX6_init 27 = .ok (.if_icmp .ge 16, 3) := dq162 bw_cX6_init_1 3 rfl rfl rfl
theorem dX6_init_30 : decode cX6_init 30 = .ok (.aload_n 0, 1) := dq42 bw_cX6_init_1 6 rfl rfl
theorem dX6_init_31 : decode cX6_init 31 = .ok (.getfield 18, 3) := dq180 bw_cX6_init_1 7 rfl rfl rfl
theorem dX6_init_34 : decode cX6_init 34 = .ok (.iload_n 1, 1) := dq27 bw_cX6_init_1 10 rfl rfl
theorem dX6_init_35 : decode cX6_init 35 = .ok (.iconst (-1), 1) := dq2 bw_cX6_init_1 11 rfl rfl
theorem dX6_init_36 : decode cX6_init 36 = .ok (.iastore, 1) := dq79 bw_cX6_init_1 12 rfl rfl
theorem dX6_init_37 : decode cX6_init 37 = .ok (.iinc 1 1, 3) := dq132 bw_cX6_init_1 13 rfl rfl rfl
theorem dX6_init_40 : decode cX6_init 40 = .ok (.goto (-16), 3) := dq167 bw_cX6_init_1 16 rfl rfl rfl
theorem dX6_init_43 : decode cX6_init 43 = .ok (.return_, 1) := dq177 bw_cX6_init_1 19 rfl rfl
theorem bw_cX7_init_0 : dq_w cX7_init 0 [42, 183, 0, 3, 42, 3, 181, 0, 9, 42, 3, 181, 0, 15, 42, 16, 30, 188, 10, 181, 0, 18, 42, 16, 30, 188, 10] = true := by decide +kernel
theorem dX7_init_0 : decode cX7_init 0 = .ok (.aload_n 0, 1) := dq42 bw_cX7_init_0 0 rfl rfl
theorem dX7_init_1 : decode cX7_init 1 = .ok (.invokespecial 3, 3) := dq183 bw_cX7_init_0 1 rfl rfl rfl
theorem dX7_init_4 : decode cX7_init 4 = .ok (.aload_n 0, 1) := dq42 bw_cX7_init_0 4 rfl rfl
theorem dX7_init_5 : decode cX7_init 5 = .ok (.iconst 0, 1) := dq3 bw_cX7_init_0 5 rfl rfl
theorem dX7_init_6 : decode cX7_init 6 = .ok (.putfield 9, 3) := dq181 bw_cX7_init_0 6 rfl rfl rfl
theorem dX7_init_9 : decode cX7_init 9 = .ok (.aload_n 0, 1) := dq42 bw_cX7_init_0 9 rfl rfl
theorem dX7_init_10 : decode cX7_init 10 = .ok (.iconst 0, 1) := dq3 bw_cX7_init_0 10 rfl rfl
theorem dX7_init_11 : decode cX7_init 11 = .ok (.putfield 15, 3) := dq181 bw_cX7_init_0 11 rfl rfl rfl
theorem dX7_init_14 : decode cX7_init 14 = .ok (.aload_n 0, 1) := dq42 bw_cX7_init_0 14 rfl rfl
theorem dX7_init_15 : decode cX7_init 15 = .ok (.bipush 30, 2) := dq16 bw_cX7_init_0 15 rfl rfl rfl
theorem dX7_init_17 : decode cX7_init 17 = .ok (.newarray .int, 2) := dq188_10 bw_cX7_init_0 17 rfl rfl
theorem dX7_init_19 : decode cX7_init 19 = .ok (.putfield 18, 3) := dq181 bw_cX7_init_0 19 rfl rfl rfl
theorem dX7_init_22 : decode cX7_init 22 = .ok (.aload_n 0, 1) := dq42 bw_cX7_init_0 22 rfl rfl
theorem dX7_init_23 : decode cX7_init 23 = .ok (.bipush 30, 2) := dq16 bw_cX7_init_0 23 rfl rfl rfl
theorem bw_cX7_init_1 : dq_w cX7_init 24 [30, 188, 10, 181, 0, 22, 42, 16, 30, 188, 10, 181, 0, 25, 42, 16, 30, 188, 10, 181, 0, 28, 177] = true := by decide +kernel
theorem dX7_init_25 : decode cX7_init 25 = .ok (.newarray .int, 2) := dq188_10 bw_cX7_init_1 1 rfl rfl
theorem dX7_init_27 : decode cX7_init 27 = .ok (.putfield 22, 3) := dq181 bw_cX7_init_1 3 rfl rfl rfl
theorem dX7_init_30 : decode cX7_init 30 = .ok (.aload_n 0, 1) := dq42 bw_cX7_init_1 6 rfl rfl
theorem dX7_init_31 : decode cX7_init 31 = .ok (.bipush 30, 2) := dq16 bw_cX7_init_1 7 rfl rfl rfl
theorem dX7_init_33 : decode cX7_init 33 = .ok (.newarray .int, 2) := dq188_10 bw_cX7_init_1 9 rfl rfl
theorem dX7_init_35 : decode cX7_init 35 = .ok (.putfield 25, 3) := dq181 bw_cX7_init_1 11 rfl rfl rfl
theorem dX7_init_38 : decode cX7_init 38 = .ok (.aload_n 0, 1) := dq42 bw_cX7_init_1 14 rfl rfl
theorem dX7_init_39 : decode cX7_init 39 = .ok (.bipush 30, 2) := dq16 bw_cX7_init_1 15 rfl rfl rfl
theorem dX7_init_41 : decode cX7_init 41 = .ok (.newarray .int, 2) := dq188_10 bw_cX7_init_1 17 rfl rfl
theorem dX7_init_43 : decode cX7_init 43 = .ok (.putfield 28, 3) := dq181 bw_cX7_init_1 19 rfl rfl rfl
theorem dX7_init_46 : decode cX7_init 46 = .ok (.return_, 1) := dq177 bw_cX7_init_1 22 rfl rfl
theorem bw_cX4_init_0 : dq_w cX4_init 0 [42, 183, 0, 3, 42, 16, 10, 188, 10, 181, 0, 9, 42, 16, 10, 188, 10, 181, 0, 15, 42, 187, 0, 18, 89, 17, 12] = true := by decide +kernel
theorem dX4_init_0 : decode cX4_init 0 = .ok (.aload_n 0, 1) := dq42 bw_cX4_init_0 0 rfl rfl
theorem dX4_init_1 : decode cX4_init 1 = .ok (.invokespecial 3, 3) := dq183 bw_cX4_init_0 1 rfl rfl rfl
theorem dX4_init_4 : decode cX4_init 4 = .ok (.aload_n 0, 1) := dq42 bw_cX4_init_0 4 rfl rfl
theorem dX4_init_5 : decode cX4_init 5 = .ok (.bipush 10, 2) := dq16 bw_cX4_init_0 5 rfl rfl rfl
theorem dX4_init_7 : decode cX4_init 7 = .ok (.newarray .int, 2) := dq188_10 bw_cX4_init_0 7 rfl rfl
theorem dX4_init_9 : decode cX4_init 9 = .ok (.putfield 9, 3) := dq181 bw_cX4_init_0 9 rfl rfl rfl
theorem dX4_init_12 : decode cX4_init 12 = .ok (.aload_n 0, 1) := dq42 bw_cX4_init_0 12 rfl rfl
theorem dX4_init_13 : decode cX4_init 13 = .ok (.bipush 10, 2) := dq16 bw_cX4_init_0 13 rfl rfl rfl
theorem dX4_init_15 : decode cX4_init 15 = .ok (.newarray .int, 2) := dq188_10 bw_cX4_init_0 15 rfl rfl
theorem dX4_init_17 : decode cX4_init 17 = .ok (.putfield 15, 3) := dq181 bw_cX4_init_0 17 rfl rfl rfl
theorem dX4_init_20 : decode cX4_init 20 = .ok (.aload_n 0, 1) := dq42 bw_cX4_init_0 20 rfl rfl
theorem dX4_init_21 : decode cX4_init 21 = .ok (.new 18, 3) := dq187 bw_cX4_init_0 21 rfl rfl rfl
theorem bw_cX4_init_1 : dq_w cX4_init 24 [89, 17, 12, 0, 183, 0, 20, 181, 0, 23, 177] = true := by decide +kernel
theorem dX4_init_24 : decode cX4_init 24 = .ok (.dup, 1) := dq89 bw_cX4_init_1 0 rfl rfl
theorem dX4_init_25 : decode cX4_init 25 = .ok (.sipush 3072, 3) := dq17 bw_cX4_init_1 1 rfl rfl rfl
theorem dX4_init_28 : decode cX4_init 28 = .ok (.invokespecial 20, 3) := dq183 bw_cX4_init_1 4 rfl rfl rfl
theorem dX4_init_31 : decode cX4_init 31 = .ok (.putfield 23, 3) := dq181 bw_cX4_init_1 7 rfl rfl rfl
theorem dX4_init_34 : decode cX4_init 34 = .ok (.return_, 1) := dq177 bw_cX4_init_1 10 rfl rfl
theorem bw_cX3_init_0 : dq_w cX3_init 0 [42, 183, 0, 3, 42, 3, 27, 184, 0, 9, 181, 0, 15, 42, 42, 180, 0, 15, 7, 108, 4, 96, 188, 11, 181, 0, 21] = true := by decide +kernel
theorem dX3_init_0 : decode cX3_init 0 = .ok (.aload_n 0, 1) := dq42 bw_cX3_init_0 0 rfl rfl
theorem dX3_init_1 : decode cX3_init 1 = .ok (.invokespecial 3, 3) := dq183 bw_cX3_init_0 1 rfl rfl rfl
theorem dX3_init_4 : decode cX3_init 4 = .ok (.aload_n 0, 1) := dq42 bw_cX3_init_0 4 rfl rfl
theorem dX3_init_5 : decode cX3_init 5 = .ok (.iconst 0, 1) := dq3 bw_cX3_init_0 5 rfl rfl
theorem dX3_init_6 : decode cX3_init 6 = .ok (.iload_n 1, 1) := dq27 bw_cX3_init_0 6 rfl rfl
theorem dX3_init_7 : decode cX3_init 7 = .ok (.invokestatic 9, 3) := dq184 bw_cX3_init_0 7 rfl rfl rfl
theorem dX3_init_10 : decode cX3_init 10 = .ok (.putfield 15, 3) := dq181 bw_cX3_init_0 10 rfl rfl rfl
theorem dX3_init_13 : decode cX3_init 13 = .ok (.aload_n 0, 1) := dq42 bw_cX3_init_0 13 rfl rfl
theorem dX3_init_14 : decode cX3_init 14 = .ok (.aload_n 0, 1) := dq42 bw_cX3_init_0 14 rfl rfl
theorem dX3_init_15 : decode cX3_init 15 = .ok (.getfield 15, 3) := dq180 bw_cX3_init_0 15 rfl rfl rfl
theorem dX3_init_18 : decode cX3_init 18 = .ok (.iconst 4, 1) := dq7 bw_cX3_init_0 18 rfl rfl
theorem dX3_init_19 : decode cX3_init 19 = .ok (.idiv, 1) := dq108 bw_cX3_init_0 19 rfl rfl
theorem dX3_init_20 : decode cX3_init 20 = .ok (.iconst 1, 1) := dq4 bw_cX3_init_0 20 rfl rfl
theorem dX3_init_21 : decode cX3_init 21 = .ok (.iadd, 1) := dq96 bw_cX3_init_0 21 rfl rfl
theorem dX3_init_22 : decode cX3_init 22 = .ok (.newarray .long, 2) := dq188_11 bw_cX3_init_0 22 rfl rfl
theorem bw_cX3_init_1 : dq_w cX3_init 24 [181, 0, 21, 177] = true := by decide +kernel
theorem dX3_init_24 : decode cX3_init 24 = .ok (.putfield 21, 3) := dq181 bw_cX3_init_1 0 rfl rfl rfl
theorem dX3_init_27 : decode cX3_init 27 = .ok (.return_, 1) := dq177 bw_cX3_init_1 3 rfl rfl
theorem bw_cX10_init_0 : dq_w cX10_init 0 [42, 183, 0, 3, 42, 187, 0, 9, 89, 17, 64, 0, 183, 0, 11, 181, 0, 14, 42, 4, 181, 0, 20, 177] = true := by decide +kernel
theorem dX10_init_0 : decode cX10_init 0 = .ok (.aload_n 0, 1) := dq42 bw_cX10_init_0 0 rfl rfl
theorem dX10_init_1 : decode cX10_init 1 = .ok (.invokespecial 3, 3) := dq183 bw_cX10_init_0 1 rfl rfl rfl
theorem dX10_init_4 : decode cX10_init 4 = .ok (.aload_n 0, 1) := dq42 bw_cX10_init_0 4 rfl rfl
theorem dX10_init_5 : decode cX10_init 5 = .ok (.new 9, 3) := dq187 bw_cX10_init_0 5 rfl rfl rfl
theorem dX10_init_8 : decode cX10_init 8 = .ok (.dup, 1) := dq89 bw_cX10_init_0 8 rfl rfl
theorem dX10_init_9 : decode cX10_init 9 = .ok (.sipush 16384, 3) := dq17 bw_cX10_init_0 9 rfl rfl rfl
theorem dX10_init_12 : decode cX10_init 12 = .ok (.invokespecial 11, 3) := dq183 bw_cX10_init_0 12 rfl rfl rfl
theorem dX10_init_15 : decode cX10_init 15 = .ok (.putfield 14, 3) := dq181 bw_cX10_init_0 15 rfl rfl rfl
theorem dX10_init_18 : decode cX10_init 18 = .ok (.aload_n 0, 1) := dq42 bw_cX10_init_0 18 rfl rfl
theorem dX10_init_19 : decode cX10_init 19 = .ok (.iconst 1, 1) := dq4 bw_cX10_init_0 19 rfl rfl
theorem dX10_init_20 : decode cX10_init 20 = .ok (.putfield 20, 3) := dq181 bw_cX10_init_0 20 rfl rfl rfl
theorem dX10_init_23 : decode cX10_init 23 = .ok (.return_, 1) := dq177 bw_cX10_init_0 23 rfl rfl
theorem bw_cX1_init_0 : dq_w cX1_init 0 [42, 183, 0, 3, 42, 16, 14, 188, 10, 181, 0, 9, 42, 3, 181, 0, 15, 42, 4, 181, 0, 19, 42, 16, 10, 188, 10] = true := by decide +kernel
theorem dX1_init_0 : decode cX1_init 0 = .ok (.aload_n 0, 1) := dq42 bw_cX1_init_0 0 rfl rfl
theorem dX1_init_1 : decode cX1_init 1 = .ok (.invokespecial 3, 3) := dq183 bw_cX1_init_0 1 rfl rfl rfl
theorem dX1_init_4 : decode cX1_init 4 = .ok (.aload_n 0, 1) := dq42 bw_cX1_init_0 4 rfl rfl
theorem dX1_init_5 : decode cX1_init 5 = .ok (.bipush 14, 2) := dq16 bw_cX1_init_0 5 rfl rfl rfl
theorem dX1_init_7 : decode cX1_init 7 = .ok (.newarray .int, 2) := dq188_10 bw_cX1_init_0 7 rfl rfl
theorem dX1_init_9 : decode cX1_init 9 = .ok (.putfield 9, 3) := dq181 bw_cX1_init_0 9 rfl rfl rfl
theorem dX1_init_12 : decode cX1_init 12 = .ok (.aload_n 0, 1) := dq42 bw_cX1_init_0 12 rfl rfl
theorem dX1_init_13 : decode cX1_init 13 = .ok (.iconst 0, 1) := dq3 bw_cX1_init_0 13 rfl rfl
theorem dX1_init_14 : decode cX1_init 14 = .ok (.putfield 15, 3) := dq181 bw_cX1_init_0 14 rfl rfl rfl
theorem dX1_init_17 : decode cX1_init 17 = .ok (.aload_n 0, 1) := dq42 bw_cX1_init_0 17 rfl rfl
theorem dX1_init_18 : decode cX1_init 18 = .ok (.iconst 1, 1) := dq4 bw_cX1_init_0 18 rfl rfl
theorem dX1_init_19 : decode cX1_init 19 = .ok (.putfield 19, 3) := dq181 bw_cX1_init_0 19 rfl rfl rfl
theorem dX1_init_22 : decode cX1_init 22 = .ok (.aload_n 0, 1) := dq42 bw_cX1_init_0 22 rfl rfl
theorem dX1_init_23 : decode cX1_init 23 = .ok (.bipush 10, 2) := dq16 bw_cX1_init_0 23 rfl rfl rfl
theorem bw_cX1_init_1 : dq_w cX1_init 24 [10, 188, 10, 181, 0, 22, 42, 16, 10, 188, 10, 181, 0, 25, 42, 16, 10, 16, 10, 197, 0, 28, 2, 181, 0, 30, 42] = true := by decide +kernel
theorem dX1_init_25 : decode cX1_init 25 = .ok (.newarray .int, 2) := dq188_10 bw_cX1_init_1 1 rfl rfl
theorem dX1_init_27 : decode cX1_init 27 = .ok (.putfield 22, 3) := dq181 bw_cX1_init_1 3 rfl rfl rfl
theorem dX1_init_30 : decode cX1_init 30 = .ok (.aload_n 0, 1) := dq42 bw_cX1_init_1 6 rfl rfl
theorem dX1_init_31 : decode cX1_init 31 = .ok (.bipush 10, 2) := dq16 bw_cX1_init_1 7 rfl rfl rfl
theorem dX1_init_33 : decode cX1_init 33 = .ok (.newarray .int, 2) := dq188_10 bw_cX1_init_1 9 rfl rfl
theorem dX1_init_35 : decode cX1_init 35 = .ok (.putfield 25, 3) := dq181 bw_cX1_init_1 11 rfl rfl rfl
theorem dX1_init_38 : decode cX1_init 38 = .ok (.aload_n 0, 1) := dq42 bw_cX1_init_1 14 rfl rfl
theorem dX1_init_39 : decode cX1_init 39 = .ok (.bipush 10, 2) := dq16 bw_cX1_init_1 15 rfl rfl rfl
theorem dX1_init_41 : decode cX1_init 41 = .ok (.bipush 10, 2) := dq16 bw_cX1_init_1 17 rfl rfl rfl
theorem dX1_init_43 : decode cX1_init 43 = .ok (.multianewarray 28 2, 4) := by decide +kernel
theorem dX1_init_47 : decode cX1_init 47 = .ok (.putfield 30, 3) := dq181 bw_cX1_init_1 23 rfl rfl rfl
theorem bw_cX1_init_2 : dq_w cX1_init 48 [0, 30, 42, 187, 0, 33, 89, 17, 64, 0, 183, 0, 35, 181, 0, 38, 177] = true := by decide +kernel
theorem dX1_init_50 : decode cX1_init 50 = .ok (.aload_n 0, 1) := dq42 bw_cX1_init_2 2 rfl rfl
theorem dX1_init_51 : decode cX1_init 51 = .ok (.new 33, 3) := dq187 bw_cX1_init_2 3 rfl rfl rfl
theorem dX1_init_54 : decode cX1_init 54 = .ok (.dup, 1) := dq89 bw_cX1_init_2 6 rfl rfl
theorem dX1_init_55 : decode cX1_init 55 = .ok (.sipush 16384, 3) := dq17 bw_cX1_init_2 7 rfl rfl rfl
theorem dX1_init_58 : decode cX1_init 58 = .ok (.invokespecial 35, 3) := dq183 bw_cX1_init_2 10 rfl rfl rfl
theorem dX1_init_61 : decode cX1_init 61 = .ok (.putfield 38, 3) := dq181 bw_cX1_init_2 13 rfl rfl rfl
theorem dX1_init_64 : decode cX1_init 64 = .ok (.return_, 1) := dq177 bw_cX1_init_2 16 rfl rfl
theorem bw_cX0_init_0 : dq_w cX0_init 0 [42, 183, 0, 3, 42, 3, 181, 0, 9, 42, 3, 181, 0, 15, 42, 16, 64, 188, 11, 181, 0, 18, 42, 16, 12, 188, 10] = true := by decide +kernel
theorem dX0_init_0 : decode cX0_init 0 = .ok (.aload_n 0, 1) := dq42 bw_cX0_init_0 0 rfl rfl
theorem dX0_init_1 : decode cX0_init 1 = .ok (.invokespecial 3, 3) := dq183 bw_cX0_init_0 1 rfl rfl rfl
theorem dX0_init_4 : decode cX0_init 4 = .ok (.aload_n 0, 1) := dq42 bw_cX0_init_0 4 rfl rfl
theorem dX0_init_5 : decode cX0_init 5 = .ok (.iconst 0, 1) := dq3 bw_cX0_init_0 5 rfl rfl
theorem dX0_init_6 : decode cX0_init 6 = .ok (.putfield 9, 3) := dq181 bw_cX0_init_0 6 rfl rfl rfl
theorem dX0_init_9 : decode cX0_init 9 = .ok (.aload_n 0, 1) := dq42 bw_cX0_init_0 9 rfl rfl
theorem dX0_init_10 : decode cX0_init 10 = .ok (.iconst 0, 1) := dq3 bw_cX0_init_0 10 rfl rfl
theorem dX0_init_11 : decode cX0_init 11 = .ok (.putfield 15, 3) := dq181 bw_cX0_init_0 11 rfl rfl rfl
theorem dX0_init_14 : decode cX0_init 14 = .ok (.aload_n 0, 1) := dq42 bw_cX0_init_0 14 rfl rfl
theorem dX0_init_15 : decode cX0_init 15 = .ok (.bipush 64, 2) := dq16 bw_cX0_init_0 15 rfl rfl rfl
theorem dX0_init_17 : decode cX0_init 17 = .ok (.newarray .long, 2) := dq188_11 bw_cX0_init_0 17 rfl rfl
theorem dX0_init_19 : decode cX0_init 19 = .ok (.putfield 18, 3) := dq181 bw_cX0_init_0 19 rfl rfl rfl
theorem dX0_init_22 : decode cX0_init 22 = .ok (.aload_n 0, 1) := dq42 bw_cX0_init_0 22 rfl rfl
theorem dX0_init_23 : decode cX0_init 23 = .ok (.bipush 12, 2) := dq16 bw_cX0_init_0 23 rfl rfl rfl
theorem bw_cX0_init_1 : dq_w cX0_init 24 [12, 188, 10, 181, 0, 22, 42, 16, 12, 188, 10, 181, 0, 26, 42, 16, 7, 188, 10, 181, 0, 29, 177] = true := by decide +kernel
theorem dX0_init_25 : decode cX0_init 25 = .ok (.newarray .int, 2) := dq188_10 bw_cX0_init_1 1 rfl rfl
theorem dX0_init_27 : decode cX0_init 27 = .ok (.putfield 22, 3) := dq181 bw_cX0_init_1 3 rfl rfl rfl
theorem dX0_init_30 : decode cX0_init 30 = .ok (.aload_n 0, 1) := dq42 bw_cX0_init_1 6 rfl rfl
theorem dX0_init_31 : decode cX0_init 31 = .ok (.bipush 12, 2) := dq16 bw_cX0_init_1 7 rfl rfl rfl
theorem dX0_init_33 : decode cX0_init 33 = .ok (.newarray .int, 2) := dq188_10 bw_cX0_init_1 9 rfl rfl
theorem dX0_init_35 : decode cX0_init 35 = .ok (.putfield 26, 3) := dq181 bw_cX0_init_1 11 rfl rfl rfl
theorem dX0_init_38 : decode cX0_init 38 = .ok (.aload_n 0, 1) := dq42 bw_cX0_init_1 14 rfl rfl
theorem dX0_init_39 : decode cX0_init 39 = .ok (.bipush 7, 2) := dq16 bw_cX0_init_1 15 rfl rfl rfl
theorem dX0_init_41 : decode cX0_init 41 = .ok (.newarray .int, 2) := dq188_10 bw_cX0_init_1 17 rfl rfl
theorem dX0_init_43 : decode cX0_init 43 = .ok (.putfield 29, 3) := dq181 bw_cX0_init_1 19 rfl rfl rfl
theorem dX0_init_46 : decode cX0_init 46 = .ok (.return_, 1) := dq177 bw_cX0_init_1 22 rfl rfl
theorem bw_cX9_init_0 : dq_w cX9_init 0 [42, 183, 0, 3, 42, 3, 181, 0, 9, 42, 3, 181, 0, 15, 42, 3, 181, 0, 19, 42, 16, 30, 188, 10, 181, 0, 22] = true := by decide +kernel
theorem dX9_init_0 : decode cX9_init 0 = .ok (.aload_n 0, 1) := dq42 bw_cX9_init_0 0 rfl rfl
theorem dX9_init_1 : decode cX9_init 1 = .ok (.invokespecial 3, 3) := dq183 bw_cX9_init_0 1 rfl rfl rfl
theorem dX9_init_4 : decode cX9_init 4 = .ok (.aload_n 0, 1) := dq42 bw_cX9_init_0 4 rfl rfl
theorem dX9_init_5 : decode cX9_init 5 = .ok (.iconst 0, 1) := dq3 bw_cX9_init_0 5 rfl rfl
theorem dX9_init_6 : decode cX9_init 6 = .ok (.putfield 9, 3) := dq181 bw_cX9_init_0 6 rfl rfl rfl
theorem dX9_init_9 : decode cX9_init 9 = .ok (.aload_n 0, 1) := dq42 bw_cX9_init_0 9 rfl rfl
theorem dX9_init_10 : decode cX9_init 10 = .ok (.iconst 0, 1) := dq3 bw_cX9_init_0 10 rfl rfl
theorem dX9_init_11 : decode cX9_init 11 = .ok (.putfield 15, 3) := dq181 bw_cX9_init_0 11 rfl rfl rfl
theorem dX9_init_14 : decode cX9_init 14 = .ok (.aload_n 0, 1) := dq42 bw_cX9_init_0 14 rfl rfl
theorem dX9_init_15 : decode cX9_init 15 = .ok (.iconst 0, 1) := dq3 bw_cX9_init_0 15 rfl rfl
theorem dX9_init_16 : decode cX9_init 16 = .ok (.putfield 19, 3) := dq181 bw_cX9_init_0 16 rfl rfl rfl
theorem dX9_init_19 : decode cX9_init 19 = .ok (.aload_n 0, 1) := dq42 bw_cX9_init_0 19 rfl rfl
theorem dX9_init_20 : decode cX9_init 20 = .ok (.bipush 30, 2) := dq16 bw_cX9_init_0 20 rfl rfl rfl
theorem dX9_init_22 : decode cX9_init 22 = .ok (.newarray .int, 2) := dq188_10 bw_cX9_init_0 22 rfl rfl
theorem bw_cX9_init_1 : dq_w cX9_init 24 [181, 0, 22, 42, 16, 30, 188, 10, 181, 0, 26, 42, 16, 30, 188, 10, 181, 0, 29, 177] = true := by decide +kernel
theorem dX9_init_24 : decode cX9_init 24 = .ok (.putfield 22, 3) := dq181 bw_cX9_init_1 0 rfl rfl rfl
theorem dX9_init_27 : decode cX9_init 27 = .ok (.aload_n 0, 1) := dq42 bw_cX9_init_1 3 rfl rfl
theorem dX9_init_28 : decode cX9_init 28 = .ok (.bipush 30, 2) := dq16 bw_cX9_init_1 4 rfl rfl rfl
theorem dX9_init_30 : decode cX9_init 30 = .ok (.newarray .int, 2) := dq188_10 bw_cX9_init_1 6 rfl rfl
theorem dX9_init_32 : decode cX9_init 32 = .ok (.putfield 26, 3) := dq181 bw_cX9_init_1 8 rfl rfl rfl
theorem dX9_init_35 : decode cX9_init 35 = .ok (.aload_n 0, 1) := dq42 bw_cX9_init_1 11 rfl rfl
theorem dX9_init_36 : decode cX9_init 36 = .ok (.bipush 30, 2) := dq16 bw_cX9_init_1 12 rfl rfl rfl
theorem dX9_init_38 : decode cX9_init 38 = .ok (.newarray .int, 2) := dq188_10 bw_cX9_init_1 14 rfl rfl
theorem dX9_init_40 : decode cX9_init 40 = .ok (.putfield 29, 3) := dq181 bw_cX9_init_1 16 rfl rfl rfl
theorem dX9_init_43 : decode cX9_init 43 = .ok (.return_, 1) := dq177 bw_cX9_init_1 19 rfl rfl
theorem bw_cX12_init_0 : dq_w cX12_init 0 [42, 183, 1, 161, 42, 16, 24, 188, 10, 181, 0, 7, 42, 16, 10, 188, 10, 181, 0, 65, 42, 16, 10, 188, 10, 181, 0] = true := by decide +kernel
theorem dX12_init_0 : decode cX12_init 0 = .ok (.aload_n 0, 1) := dq42 bw_cX12_init_0 0 rfl rfl
theorem dX12_init_1 : decode cX12_init 1 = .ok (.invokespecial 417, 3) := dq183 bw_cX12_init_0 1 rfl rfl rfl
theorem dX12_init_4 : decode cX12_init 4 = .ok (.aload_n 0, 1) := dq42 bw_cX12_init_0 4 rfl rfl
theorem dX12_init_5 : decode cX12_init 5 = .ok (.bipush 24, 2) := dq16 bw_cX12_init_0 5 rfl rfl rfl
theorem dX12_init_7 : decode cX12_init 7 = .ok (.newarray .int, 2) := dq188_10 bw_cX12_init_0 7 rfl rfl
theorem dX12_init_9 : decode cX12_init 9 = .ok (.putfield 7, 3) := dq181 bw_cX12_init_0 9 rfl rfl rfl
theorem dX12_init_12 : decode cX12_init 12 = .ok (.aload_n 0, 1) := dq42 bw_cX12_init_0 12 rfl rfl
theorem dX12_init_13 : decode cX12_init 13 = .ok (.bipush 10, 2) := dq16 bw_cX12_init_0 13 rfl rfl rfl
theorem dX12_init_15 : decode cX12_init 15 = .ok (.newarray .int, 2) := dq188_10 bw_cX12_init_0 15 rfl rfl
theorem dX12_init_17 : decode cX12_init 17 = .ok (.putfield 65, 3) := dq181 bw_cX12_init_0 17 rfl rfl rfl
theorem dX12_init_20 : decode cX12_init 20 = .ok (.aload_n 0, 1) := dq42 bw_cX12_init_0 20 rfl rfl
theorem dX12_init_21 : decode cX12_init 21 = .ok (.bipush 10, 2) := dq16 bw_cX12_init_0 21 rfl rfl rfl
theorem dX12_init_23 : decode cX12_init 23 = .ok (.newarray .int, 2) := dq188_10 bw_cX12_init_0 23 rfl rfl
theorem bw_cX12_init_1 : dq_w cX12_init 24 [10, 181, 0, 68, 42, 16, 14, 188, 10, 181, 0, 74, 42, 16, 14, 188, 10, 181, 0, 80, 42, 16, 14, 188, 10, 181, 0] = true := by decide +kernel
theorem dX12_init_25 : decode cX12_init 25 = .ok (.putfield 68, 3) := dq181 bw_cX12_init_1 1 rfl rfl rfl
theorem dX12_init_28 : decode cX12_init 28 = .ok (.aload_n 0, 1) := dq42 bw_cX12_init_1 4 rfl rfl
theorem dX12_init_29 : decode cX12_init 29 = .ok (.bipush 14, 2) := dq16 bw_cX12_init_1 5 rfl rfl rfl
theorem dX12_init_31 : decode cX12_init 31 = .ok (.newarray .int, 2) := dq188_10 bw_cX12_init_1 7 rfl rfl
theorem dX12_init_33 : decode cX12_init 33 = .ok (.putfield 74, 3) := dq181 bw_cX12_init_1 9 rfl rfl rfl
theorem dX12_init_36 : decode cX12_init 36 = .ok (.aload_n 0, 1) := dq42 bw_cX12_init_1 12 rfl rfl
theorem dX12_init_37 : decode cX12_init 37 = .ok (.bipush 14, 2) := dq16 bw_cX12_init_1 13 rfl rfl rfl
theorem dX12_init_39 : decode cX12_init 39 = .ok (.newarray .int, 2) := dq188_10 bw_cX12_init_1 15 rfl rfl
theorem dX12_init_41 : decode cX12_init 41 = .ok (.putfield 80, 3) := dq181 bw_cX12_init_1 17 rfl rfl rfl
theorem dX12_init_44 : decode cX12_init 44 = .ok (.aload_n 0, 1) := dq42 bw_cX12_init_1 20 rfl rfl
theorem dX12_init_45 : decode cX12_init 45 = .ok (.bipush 14, 2) := dq16 bw_cX12_init_1 21 rfl rfl rfl
theorem dX12_init_47 : decode cX12_init 47 = .ok (.newarray .int, 2) := dq188_10 bw_cX12_init_1 23 rfl rfl
theorem bw_cX12_init_2 : dq_w cX12_init 48 [10, 181, 0, 83, 42, 16, 14, 188, 10, 181, 0, 89, 42, 16, 14, 188, 10, 181, 0, 92, 42, 16, 14, 188, 10, 181, 0] = true := by decide +kernel
theorem dX12_init_49 : decode cX12_init 49 = .ok (.putfield 83, 3) := dq181 bw_cX12_init_2 1 rfl rfl rfl
theorem dX12_init_52 : decode cX12_init 52 = .ok (.aload_n 0, 1) := dq42 bw_cX12_init_2 4 rfl rfl
theorem dX12_init_53 : decode cX12_init 53 = .ok (.bipush 14, 2) := dq16 bw_cX12_init_2 5 rfl rfl rfl
theorem dX12_init_55 : decode cX12_init 55 = .ok (.newarray .int, 2) := dq188_10 bw_cX12_init_2 7 rfl rfl
theorem dX12_init_57 : decode cX12_init 57 = .ok (.putfield 89, 3) := dq181 bw_cX12_init_2 9 rfl rfl rfl
theorem dX12_init_60 : decode cX12_init 60 = .ok (.aload_n 0, 1) := dq42 bw_cX12_init_2 12 rfl rfl
theorem dX12_init_61 : decode cX12_init 61 = .ok (.bipush 14, 2) := dq16 bw_cX12_init_2 13 rfl rfl rfl
theorem dX12_init_63 : decode cX12_init 63 = .ok (.newarray .int, 2) := dq188_10 bw_cX12_init_2 15 rfl rfl
theorem dX12_init_65 : decode cX12_init 65 = .ok (.putfield 92, 3) := dq181 bw_cX12_init_2 17 rfl rfl rfl
theorem dX12_init_68 : decode cX12_init 68 = .ok (.aload_n 0, 1) := dq42 bw_cX12_init_2 20 rfl rfl
theorem dX12_init_69 : decode cX12_init 69 = .ok (.bipush 14, 2) := dq16 bw_cX12_init_2 21 rfl rfl rfl
theorem dX12_init_71 : decode cX12_init 71 = .ok (.newarray .int, 2) := dq188_10 bw_cX12_init_2 23 rfl rfl
theorem bw_cX12_init_3 : dq_w cX12_init 72 [10, 181, 0, 95, 42, 16, 14, 188, 10, 181, 0, 98, 42, 16, 9, 181, 0, 132, 42, 17, 2, 88, 181, 0, 169, 42, 16] = true := by decide +kernel
theorem dX12_init_73 : decode cX12_init 73 = .ok (.putfield 95, 3) := dq181 bw_cX12_init_3 1 rfl rfl rfl
theorem dX12_init_76 : decode cX12_init 76 = .ok (.aload_n 0, 1) := dq42 bw_cX12_init_3 4 rfl rfl
theorem dX12_init_77 : decode cX12_init 77 = .ok (.bipush 14, 2) := dq16 bw_cX12_init_3 5 rfl rfl rfl
theorem dX12_init_79 : decode cX12_init 79 = .ok (.newarray .int, 2) := dq188_10 bw_cX12_init_3 7 rfl rfl
theorem dX12_init_81 : decode cX12_init 81 = .ok (.putfield 98, 3) := dq181 bw_cX12_init_3 9 rfl rfl rfl
theorem dX12_init_84 : decode cX12_init 84 = .ok (.aload_n 0, 1) := dq42 bw_cX12_init_3 12 rfl rfl
theorem dX12_init_85 : decode cX12_init 85 = .ok (.bipush 9, 2) := dq16 bw_cX12_init_3 13 rfl rfl rfl
theorem dX12_init_87 : decode cX12_init 87 = .ok (.putfield 132, 3) := dq181 bw_cX12_init_3 15 rfl rfl rfl
theorem dX12_init_90 : decode cX12_init 90 = .ok (.aload_n 0, 1) := dq42 bw_cX12_init_3 18 rfl rfl
theorem dX12_init_91 : decode cX12_init 91 = .ok (.sipush 600, 3) := dq17 bw_cX12_init_3 19 rfl rfl rfl
theorem dX12_init_94 : decode cX12_init 94 = .ok (.putfield 169, 3) := dq181 bw_cX12_init_3 22 rfl rfl rfl
theorem bw_cX12_init_4 : dq_w cX12_init 96 [169, 42, 16, 14, 188, 10, 181, 0, 104, 42, 16, 80, 188, 10, 181, 0, 27, 42, 16, 30, 188, 10, 181, 0, 189, 42, 16] = true := by decide +kernel
theorem dX12_init_97 : decode cX12_init 97 = .ok (.aload_n 0, 1) := dq42 bw_cX12_init_4 1 rfl rfl
theorem dX12_init_98 : decode cX12_init 98 = .ok (.bipush 14, 2) := dq16 bw_cX12_init_4 2 rfl rfl rfl
theorem dX12_init_100 : decode cX12_init 100 = .ok (.newarray .int, 2) := dq188_10 bw_cX12_init_4 4 rfl rfl
theorem dX12_init_102 : decode cX12_init 102 = .ok (.putfield 104, 3) := dq181 bw_cX12_init_4 6 rfl rfl rfl
theorem dX12_init_105 : decode cX12_init 105 = .ok (.aload_n 0, 1) := dq42 bw_cX12_init_4 9 rfl rfl
theorem dX12_init_106 : decode cX12_init 106 = .ok (.bipush 80, 2) := dq16 bw_cX12_init_4 10 rfl rfl rfl
theorem dX12_init_108 : decode cX12_init 108 = .ok (.newarray .int, 2) := dq188_10 bw_cX12_init_4 12 rfl rfl
theorem dX12_init_110 : decode cX12_init 110 = .ok (.putfield 27, 3) := dq181 bw_cX12_init_4 14 rfl rfl rfl
theorem dX12_init_113 : decode cX12_init 113 = .ok (.aload_n 0, 1) := dq42 bw_cX12_init_4 17 rfl rfl
theorem dX12_init_114 : decode cX12_init 114 = .ok (.bipush 30, 2) := dq16 bw_cX12_init_4 18 rfl rfl rfl
theorem dX12_init_116 : decode cX12_init 116 = .ok (.newarray .int, 2) := dq188_10 bw_cX12_init_4 20 rfl rfl
theorem dX12_init_118 : decode cX12_init 118 = .ok (.putfield 189, 3) := dq181 bw_cX12_init_4 22 rfl rfl rfl
theorem bw_cX12_init_5 : dq_w cX12_init 120 [189, 42, 16, 30, 188, 10, 181, 0, 192, 42, 16, 30, 188, 10, 181, 0, 195, 42, 16, 30, 188, 10, 181, 0, 198, 42, 5] = true := by decide +kernel
theorem dX12_init_121 : decode cX12_init 121 = .ok (.aload_n 0, 1) := dq42 bw_cX12_init_5 1 rfl rfl
theorem dX12_init_122 : decode cX12_init 122 = .ok (.bipush 30, 2) := dq16 bw_cX12_init_5 2 rfl rfl rfl
theorem dX12_init_124 : decode cX12_init 124 = .ok (.newarray .int, 2) := dq188_10 bw_cX12_init_5 4 rfl rfl
theorem dX12_init_126 : decode cX12_init 126 = .ok (.putfield 192, 3) := dq181 bw_cX12_init_5 6 rfl rfl rfl
theorem dX12_init_129 : decode cX12_init 129 = .ok (.aload_n 0, 1) := dq42 bw_cX12_init_5 9 rfl rfl
theorem dX12_init_130 : decode cX12_init 130 = .ok (.bipush 30, 2) := dq16 bw_cX12_init_5 10 rfl rfl rfl
theorem dX12_init_132 : decode cX12_init 132 = .ok (.newarray .int, 2) := dq188_10 bw_cX12_init_5 12 rfl rfl
theorem dX12_init_134 : decode cX12_init 134 = .ok (.putfield 195, 3) := dq181 bw_cX12_init_5 14 rfl rfl rfl
theorem dX12_init_137 : decode cX12_init 137 = .ok (.aload_n 0, 1) := dq42 bw_cX12_init_5 17 rfl rfl
theorem dX12_init_138 : decode cX12_init 138 = .ok (.bipush 30, 2) := dq16 bw_cX12_init_5 18 rfl rfl rfl
theorem dX12_init_140 : decode cX12_init 140 = .ok (.newarray .int, 2) := dq188_10 bw_cX12_init_5 20 rfl rfl
theorem dX12_init_142 : decode cX12_init 142 = .ok (.putfield 198, 3) := dq181 bw_cX12_init_5 22 rfl rfl rfl
theorem bw_cX12_init_6 : dq_w cX12_init 144 [198, 42, 5, 188, 10, 89, 3, 2, 79, 89, 4, 2, 79, 181, 0, 220, 42, 5, 188, 10, 181, 0, 223, 42, 16, 60, 188] = true := by decide +kernel
theorem dX12_init_145 : decode cX12_init 145 = .ok (.aload_n 0, 1) := dq42 bw_cX12_init_6 1 rfl rfl
theorem dX12_init_146 : decode cX12_init 146 = .ok (.iconst 2, 1) := dq5 bw_cX12_init_6 2 rfl rfl
theorem dX12_init_147 : decode cX12_init 147 = .ok (.newarray .int, 2) := dq188_10 bw_cX12_init_6 3 rfl rfl
theorem dX12_init_149 : decode cX12_init 149 = .ok (.dup, 1) := dq89 bw_cX12_init_6 5 rfl rfl
theorem dX12_init_150 : decode cX12_init 150 = .ok (.iconst 0, 1) := dq3 bw_cX12_init_6 6 rfl rfl
theorem dX12_init_151 : decode cX12_init 151 = .ok (.iconst (-1), 1) := dq2 bw_cX12_init_6 7 rfl rfl
theorem dX12_init_152 : decode cX12_init 152 = .ok (.iastore, 1) := dq79 bw_cX12_init_6 8 rfl rfl
theorem dX12_init_153 : decode cX12_init 153 = .ok (.dup, 1) := dq89 bw_cX12_init_6 9 rfl rfl
theorem dX12_init_154 : decode cX12_init 154 = .ok (.iconst 1, 1) := dq4 bw_cX12_init_6 10 rfl rfl
theorem dX12_init_155 : decode cX12_init 155 = .ok (.iconst (-1), 1) := dq2 bw_cX12_init_6 11 rfl rfl
theorem dX12_init_156 : decode cX12_init 156 = .ok (.iastore, 1) := dq79 bw_cX12_init_6 12 rfl rfl
theorem dX12_init_157 : decode cX12_init 157 = .ok (.putfield 220, 3) := dq181 bw_cX12_init_6 13 rfl rfl rfl
theorem dX12_init_160 : decode cX12_init 160 = .ok (.aload_n 0, 1) := dq42 bw_cX12_init_6 16 rfl rfl
theorem dX12_init_161 : decode cX12_init 161 = .ok (.iconst 2, 1) := dq5 bw_cX12_init_6 17 rfl rfl
theorem dX12_init_162 : decode cX12_init 162 = .ok (.newarray .int, 2) := dq188_10 bw_cX12_init_6 18 rfl rfl
theorem dX12_init_164 : decode cX12_init 164 = .ok (.putfield 223, 3) := dq181 bw_cX12_init_6 20 rfl rfl rfl
theorem dX12_init_167 : decode cX12_init 167 = .ok (.aload_n 0, 1) := dq42 bw_cX12_init_6 23 rfl rfl
theorem bw_cX12_init_7 : dq_w cX12_init 168 [16, 60, 188, 10, 181, 0, 226, 42, 16, 30, 188, 10, 181, 0, 217, 42, 16, 14, 188, 10, 181, 0, 238, 42, 16, 10, 188] = true := by decide +kernel
theorem dX12_init_168 : decode cX12_init 168 = .ok (.bipush 60, 2) := dq16 bw_cX12_init_7 0 rfl rfl rfl
theorem dX12_init_170 : decode cX12_init 170 = .ok (.newarray .int, 2) := dq188_10 bw_cX12_init_7 2 rfl rfl
theorem dX12_init_172 : decode cX12_init 172 = .ok (.putfield 226, 3) := dq181 bw_cX12_init_7 4 rfl rfl rfl
theorem dX12_init_175 : decode cX12_init 175 = .ok (.aload_n 0, 1) := dq42 bw_cX12_init_7 7 rfl rfl
theorem dX12_init_176 : decode cX12_init 176 = .ok (.bipush 30, 2) := dq16 bw_cX12_init_7 8 rfl rfl rfl
theorem dX12_init_178 : decode cX12_init 178 = .ok (.newarray .int, 2) := dq188_10 bw_cX12_init_7 10 rfl rfl
theorem dX12_init_180 : decode cX12_init 180 = .ok (.putfield 217, 3) := dq181 bw_cX12_init_7 12 rfl rfl rfl
theorem dX12_init_183 : decode cX12_init 183 = .ok (.aload_n 0, 1) := dq42 bw_cX12_init_7 15 rfl rfl
theorem dX12_init_184 : decode cX12_init 184 = .ok (.bipush 14, 2) := dq16 bw_cX12_init_7 16 rfl rfl rfl
theorem dX12_init_186 : decode cX12_init 186 = .ok (.newarray .int, 2) := dq188_10 bw_cX12_init_7 18 rfl rfl
theorem dX12_init_188 : decode cX12_init 188 = .ok (.putfield 238, 3) := dq181 bw_cX12_init_7 20 rfl rfl rfl
theorem dX12_init_191 : decode cX12_init 191 = .ok (.aload_n 0, 1) := dq42 bw_cX12_init_7 23 rfl rfl
theorem bw_cX12_init_8 : dq_w cX12_init 192 [16, 10, 188, 10, 181, 1, 7, 42, 16, 10, 188, 10, 181, 1, 30, 42, 16, 10, 188, 10, 181, 1, 42, 42, 16, 10, 188] = true := by decide +kernel
theorem dX12_init_192 : decode cX12_init 192 = .ok (.bipush 10, 2) := dq16 bw_cX12_init_8 0 rfl rfl rfl
theorem dX12_init_194 : decode cX12_init 194 = .ok (.newarray .int, 2) := dq188_10 bw_cX12_init_8 2 rfl rfl
theorem dX12_init_196 : decode cX12_init 196 = .ok (.putfield 263, 3) := dq181 bw_cX12_init_8 4 rfl rfl rfl
theorem dX12_init_199 : decode cX12_init 199 = .ok (.aload_n 0, 1) := dq42 bw_cX12_init_8 7 rfl rfl
theorem dX12_init_200 : decode cX12_init 200 = .ok (.bipush 10, 2) := dq16 bw_cX12_init_8 8 rfl rfl rfl
theorem dX12_init_202 : decode cX12_init 202 = .ok (.newarray .int, 2) := dq188_10 bw_cX12_init_8 10 rfl rfl
theorem dX12_init_204 : decode cX12_init 204 = .ok (.putfield 286, 3) := dq181 bw_cX12_init_8 12 rfl rfl rfl
theorem dX12_init_207 : decode cX12_init 207 = .ok (.aload_n 0, 1) := dq42 bw_cX12_init_8 15 rfl rfl
theorem dX12_init_208 : decode cX12_init 208 = .ok (.bipush 10, 2) := dq16 bw_cX12_init_8 16 rfl rfl rfl
theorem dX12_init_210 : decode cX12_init 210 = .ok (.newarray .int, 2) := dq188_10 bw_cX12_init_8 18 rfl rfl
theorem dX12_init_212 : decode cX12_init 212 = .ok (.putfield 298, 3) := dq181 bw_cX12_init_8 20 rfl rfl rfl
theorem dX12_init_215 : decode cX12_init 215 = .ok (.aload_n 0, 1) := dq42 bw_cX12_init_8 23 rfl rfl
theorem bw_cX12_init_9 : dq_w cX12_init 216 [16, 10, 188, 10, 181, 1, 45, 42, 19, 1, 166, 188, 10, 181, 1, 67, 42, 16, 100, 188, 10, 181, 1, 87, 42, 16, 10] = true := by decide +kernel
theorem dX12_init_216 : decode cX12_init 216 = .ok (.bipush 10, 2) := dq16 bw_cX12_init_9 0 rfl rfl rfl
theorem dX12_init_218 : decode cX12_init 218 = .ok (.newarray .int, 2) := dq188_10 bw_cX12_init_9 2 rfl rfl
theorem dX12_init_220 : decode cX12_init 220 = .ok (.putfield 301, 3) := dq181 bw_cX12_init_9 4 rfl rfl rfl
theorem dX12_init_223 : decode cX12_init 223 = .ok (.aload_n 0, 1) := dq42 bw_cX12_init_9 7 rfl rfl
theorem dX12_init_224 : decode cX12_init 224 = .ok (.ldc_w 422, 3) := dq19 bw_cX12_init_9 8 rfl rfl rfl
theorem dX12_init_227 : decode cX12_init 227 = .ok (.newarray .int, 2) := dq188_10 bw_cX12_init_9 11 rfl rfl
theorem dX12_init_229 : decode cX12_init 229 = .ok (.putfield 323, 3) := dq181 bw_cX12_init_9 13 rfl rfl rfl
theorem dX12_init_232 : decode cX12_init 232 = .ok (.aload_n 0, 1) := dq42 bw_cX12_init_9 16 rfl rfl
theorem dX12_init_233 : decode cX12_init 233 = .ok (.bipush 100, 2) := dq16 bw_cX12_init_9 17 rfl rfl rfl
theorem dX12_init_235 : decode cX12_init 235 = .ok (.newarray .int, 2) := dq188_10 bw_cX12_init_9 19 rfl rfl
theorem dX12_init_237 : decode cX12_init 237 = .ok (.putfield 343, 3) := dq181 bw_cX12_init_9 21 rfl rfl rfl
theorem bw_cX12_init_10 : dq_w cX12_init 240 [42, 16, 10, 188, 10, 181, 1, 106, 42, 16, 10, 188, 10, 181, 1, 116, 42, 16, 12, 188, 10, 181, 1, 128, 42, 16, 12] = true := by decide +kernel
theorem dX12_init_240 : decode cX12_init 240 = .ok (.aload_n 0, 1) := dq42 bw_cX12_init_10 0 rfl rfl
theorem dX12_init_241 : decode cX12_init 241 = .ok (.bipush 10, 2) := dq16 bw_cX12_init_10 1 rfl rfl rfl
theorem dX12_init_243 : decode cX12_init 243 = .ok (.newarray .int, 2) := dq188_10 bw_cX12_init_10 3 rfl rfl
theorem dX12_init_245 : decode cX12_init 245 = .ok (.putfield 362, 3) := dq181 bw_cX12_init_10 5 rfl rfl rfl
theorem dX12_init_248 : decode cX12_init 248 = .ok (.aload_n 0, 1) := dq42 bw_cX12_init_10 8 rfl rfl
theorem dX12_init_249 : decode cX12_init 249 = .ok (.bipush 10, 2) := dq16 bw_cX12_init_10 9 rfl rfl rfl
theorem dX12_init_251 : decode cX12_init 251 = .ok (.newarray .int, 2) := dq188_10 bw_cX12_init_10 11 rfl rfl
theorem dX12_init_253 : decode cX12_init 253 = .ok (.putfield 372, 3) := dq181 bw_cX12_init_10 13 rfl rfl rfl
theorem dX12_init_256 : decode cX12_init 256 = .ok (.aload_n 0, 1) := dq42 bw_cX12_init_10 16 rfl rfl
theorem dX12_init_257 : decode cX12_init 257 = .ok (.bipush 12, 2) := dq16 bw_cX12_init_10 17 rfl rfl rfl
theorem dX12_init_259 : decode cX12_init 259 = .ok (.newarray .int, 2) := dq188_10 bw_cX12_init_10 19 rfl rfl
theorem dX12_init_261 : decode cX12_init 261 = .ok (.putfield 384, 3) := dq181 bw_cX12_init_10 21 rfl rfl rfl
theorem bw_cX12_init_11 : dq_w cX12_init 264 [42, 16, 12, 188, 10, 181, 1, 131, 42, 16, 7, 188, 10, 181, 1, 146, 42, 6, 188, 4, 181, 1, 154, 42, 16, 48, 188] = true := by decide +kernel
theorem dX12_init_264 : decode cX12_init 264 = .ok (.aload_n 0, 1) := dq42 bw_cX12_init_11 0 rfl rfl
theorem dX12_init_265 : decode cX12_init 265 = .ok (.bipush 12, 2) := dq16 bw_cX12_init_11 1 rfl rfl rfl
theorem dX12_init_267 : decode cX12_init 267 = .ok (.newarray .int, 2) := dq188_10 bw_cX12_init_11 3 rfl rfl
theorem dX12_init_269 : decode cX12_init 269 = .ok (.putfield 387, 3) := dq181 bw_cX12_init_11 5 rfl rfl rfl
theorem dX12_init_272 : decode cX12_init 272 = .ok (.aload_n 0, 1) := dq42 bw_cX12_init_11 8 rfl rfl
theorem dX12_init_273 : decode cX12_init 273 = .ok (.bipush 7, 2) := dq16 bw_cX12_init_11 9 rfl rfl rfl
theorem dX12_init_275 : decode cX12_init 275 = .ok (.newarray .int, 2) := dq188_10 bw_cX12_init_11 11 rfl rfl
theorem dX12_init_277 : decode cX12_init 277 = .ok (.putfield 402, 3) := dq181 bw_cX12_init_11 13 rfl rfl rfl
theorem dX12_init_280 : decode cX12_init 280 = .ok (.aload_n 0, 1) := dq42 bw_cX12_init_11 16 rfl rfl
theorem dX12_init_281 : decode cX12_init 281 = .ok (.iconst 3, 1) := dq6 bw_cX12_init_11 17 rfl rfl
theorem dX12_init_282 : decode cX12_init 282 = .ok (.newarray .boolean, 2) := dq188_4 bw_cX12_init_11 18 rfl rfl
theorem dX12_init_284 : decode cX12_init 284 = .ok (.putfield 410, 3) := dq181 bw_cX12_init_11 20 rfl rfl rfl
theorem dX12_init_287 : decode cX12_init 287 = .ok (.aload_n 0, 1) := dq42 bw_cX12_init_11 23 rfl rfl
theorem bw_cX12_init_12 : dq_w cX12_init 288 [16, 48, 188, 10, 181, 1, 158, 177] = true := by decide +kernel
theorem dX12_init_288 : decode cX12_init 288 = .ok (.bipush 48, 2) := dq16 bw_cX12_init_12 0 rfl rfl rfl
theorem dX12_init_290 : decode cX12_init 290 = .ok (.newarray .int, 2) := dq188_10 bw_cX12_init_12 2 rfl rfl
theorem dX12_init_292 : decode cX12_init 292 = .ok (.putfield 414, 3) := dq181 bw_cX12_init_12 4 rfl rfl rfl
theorem dX12_init_295 : decode cX12_init 295 = .ok (.return_, 1) := dq177 bw_cX12_init_12 7 rfl rfl
theorem bw_cX8_append_0 : dq_w cX8_append 0 [42, 180, 0, 15, 16, 76, 164, 0, 5, 3, 172, 16, 24, 61, 28, 155, 0, 36, 42, 180, 0, 9, 42, 180, 0, 15, 27] = true := by decide +kernel
theorem dX8_append_0 : decode cX8_append 0 = .ok (.aload_n 0, 1) := dq42 bw_cX8_append_0 0 rfl rfl
theorem dX8_append_1 : decode cX8_append 1 = .ok (.getfield 15, 3) := dq180 bw_cX8_append_0 1 rfl rfl rfl
theorem dX8_append_4 : decode cX8_append 4 = .ok (.bipush 76, 2) := dq16 bw_cX8_append_0 4 rfl rfl rfl
theorem dX8_append_6 : decode cX8_append 6 = .ok (.if_icmp .le 5, 3) := dq164 bw_cX8_append_0 6 rfl rfl rfl
theorem dX8_append_9 : decode cX8_append 9 = .ok (.iconst 0, 1) := dq3 bw_cX8_append_0 9 rfl rfl
theorem dX8_append_10 : decode cX8_append 10 = .ok (.ireturn, 1) := dq172 bw_cX8_append_0 10 rfl rfl
theorem dX8_append_11 : decode cX8_append 11 = .ok (.bipush 24, 2) := dq16 bw_cX8_append_0 11 rfl rfl rfl
theorem dX8_append_13 : decode cX8_append 13 = .ok (.istore_n 2, 1) := dq61 bw_cX8_append_0 13 rfl rfl
theorem dX8_append_14 : decode cX8_append 14 = .ok (.iload_n 2, 1) := dq28 bw_cX8_append_0 14 rfl rfl
theorem dX8_append_15 : decode cX8_append 15 = .ok (.ifCond .lt 36, 3) := dq155 bw_cX8_append_0 15 rfl rfl rfl
theorem dX8_append_18 : decode cX8_append 18 = .ok (.aload_n 0, 1) := dq42 bw_cX8_append_0 18 rfl rfl
theorem dX8_append_19 : decode cX8_append 19 = .ok (.getfield 9, 3) := dq180 bw_cX8_append_0 19 rfl rfl rfl
theorem dX8_append_22 : decode cX8_append 22 = .ok (.aload_n 0, 1) := dq42 bw_cX8_append_0 22 rfl rfl
theorem dX8_append_23 : decode cX8_append 23 = .ok (.getfield 15, 3) := dq180 bw_cX8_append_0 23 rfl rfl rfl
theorem bw_cX8_append_1 : dq_w cX8_append 24 [0, 15, 27, 28, 122, 17, 0, 255, 126, 146, 85, 42, 89, 180, 0, 15, 4, 96, 181, 0, 15, 132, 2, 248, 167, 255, 222] = true := by decide +kernel
theorem dX8_append_26 : decode cX8_append 26 = .ok (.iload_n 1, 1) := dq27 bw_cX8_append_1 2 rfl rfl
theorem dX8_append_27 : decode cX8_append 27 = .ok (.iload_n 2, 1) := dq28 bw_cX8_append_1 3 rfl rfl
theorem dX8_append_28 : decode cX8_append 28 = .ok (.ishr, 1) := dq122 bw_cX8_append_1 4 rfl rfl
theorem dX8_append_29 : decode cX8_append 29 = .ok (.sipush 255, 3) := dq17 bw_cX8_append_1 5 rfl rfl rfl
theorem dX8_append_32 : decode cX8_append 32 = .ok (.iand, 1) := dq126 bw_cX8_append_1 8 rfl rfl
theorem dX8_append_33 : decode cX8_append 33 = .ok (.i2c, 1) := dq146 bw_cX8_append_1 9 rfl rfl
theorem dX8_append_34 : decode cX8_append 34 = .ok (.castore, 1) := dq85 bw_cX8_append_1 10 rfl rfl
theorem dX8_append_35 : decode cX8_append 35 = .ok (.aload_n 0, 1) := dq42 bw_cX8_append_1 11 rfl rfl
theorem dX8_append_36 : decode cX8_append 36 = .ok (.dup, 1) := dq89 bw_cX8_append_1 12 rfl rfl
theorem dX8_append_37 : decode cX8_append 37 = .ok (.getfield 15, 3) := dq180 bw_cX8_append_1 13 rfl rfl rfl
theorem dX8_append_40 : decode cX8_append 40 = .ok (.iconst 1, 1) := dq4 bw_cX8_append_1 16 rfl rfl
theorem dX8_append_41 : decode cX8_append 41 = .ok (.iadd, 1) := dq96 bw_cX8_append_1 17 rfl rfl
theorem dX8_append_42 : decode cX8_append 42 = .ok (.putfield 15, 3) := dq181 bw_cX8_append_1 18 rfl rfl rfl
theorem dX8_append_45 : decode cX8_append 45 = .ok (.iinc 2 (-8), 3) := dq132 bw_cX8_append_1 21 rfl rfl rfl
theorem bw_cX8_append_2 : dq_w cX8_append 48 [167, 255, 222, 4, 172] = true := by decide +kernel
theorem dX8_append_48 : decode cX8_append 48 = .ok (.goto (-34), 3) := dq167 bw_cX8_append_2 0 rfl rfl rfl
theorem dX8_append_51 : decode cX8_append 51 = .ok (.iconst 1, 1) := dq4 bw_cX8_append_2 3 rfl rfl
theorem dX8_append_52 : decode cX8_append 52 = .ok (.ireturn, 1) := dq172 bw_cX8_append_2 4 rfl rfl
theorem bw_cX11_sign_0 : dq_w cX11_sign 0 [42, 180, 0, 10, 27, 182, 0, 90, 153, 0, 13, 42, 180, 0, 10, 180, 0, 94, 167, 0, 4, 2, 172] = true := by decide +kernel
theorem dX11_sign_0 : decode cX11_sign 0 = .ok (.aload_n 0, 1) := dq42 bw_cX11_sign_0 0 rfl rfl
theorem dX11_sign_1 : decode cX11_sign 1 = .ok (.getfield 10, 3) := dq180 bw_cX11_sign_0 1 rfl rfl rfl
theorem dX11_sign_4 : decode cX11_sign 4 = .ok (.iload_n 1, 1) := dq27 bw_cX11_sign_0 4 rfl rfl
theorem dX11_sign_5 : decode cX11_sign 5 = .ok (.invokevirtual 90, 3) := dq182 bw_cX11_sign_0 5 rfl rfl rfl
theorem dX11_sign_8 : decode cX11_sign 8 = .ok (.ifCond .eq 13, 3) := dq153 bw_cX11_sign_0 8 rfl rfl rfl
theorem dX11_sign_11 : decode cX11_sign 11 = .ok (.aload_n 0, 1) := dq42 bw_cX11_sign_0 11 rfl rfl
theorem dX11_sign_12 : decode cX11_sign 12 = .ok (.getfield 10, 3) := dq180 bw_cX11_sign_0 12 rfl rfl rfl
theorem dX11_sign_15 : decode cX11_sign 15 = .ok (.getfield 94, 3) := dq180 bw_cX11_sign_0 15 rfl rfl rfl
theorem dX11_sign_18 : decode cX11_sign 18 = .ok (.goto 4, 3) := dq167 bw_cX11_sign_0 18 rfl rfl rfl
theorem dX11_sign_21 : decode cX11_sign 21 = .ok (.iconst (-1), 1) := dq2 bw_cX11_sign_0 21 rfl rfl
theorem dX11_sign_22 : decode cX11_sign 22 = .ok (.ireturn, 1) := dq172 bw_cX11_sign_0 22 rfl rfl
theorem bw_cX11_end_0 : dq_w cX11_end 0 [27, 155, 0, 14, 27, 42, 180, 0, 10, 180, 0, 94, 164, 0, 5, 3, 172, 42, 180, 0, 10, 27, 181, 0, 94, 4, 172] = true := by decide +kernel
theorem dX11_end_0 : decode cX11_end 0 = .ok (.iload_n 1, 1) := dq27 bw_cX11_end_0 0 rfl rfl
theorem dX11_end_1 : decode cX11_end 1 = .ok (.ifCond .lt 14, 3) := dq155 bw_cX11_end_0 1 rfl rfl rfl
theorem dX11_end_4 : decode cX11_end 4 = .ok (.iload_n 1, 1) := dq27 bw_cX11_end_0 4 rfl rfl
theorem dX11_end_5 : decode cX11_end 5 = .ok (.aload_n 0, 1) := dq42 bw_cX11_end_0 5 rfl rfl
theorem dX11_end_6 : decode cX11_end 6 = .ok (.getfield 10, 3) := dq180 bw_cX11_end_0 6 rfl rfl rfl
theorem dX11_end_9 : decode cX11_end 9 = .ok (.getfield 94, 3) := dq180 bw_cX11_end_0 9 rfl rfl rfl
theorem dX11_end_12 : decode cX11_end 12 = .ok (.if_icmp .le 5, 3) := dq164 bw_cX11_end_0 12 rfl rfl rfl
theorem dX11_end_15 : decode cX11_end 15 = .ok (.iconst 0, 1) := dq3 bw_cX11_end_0 15 rfl rfl
theorem dX11_end_16 : decode cX11_end 16 = .ok (.ireturn, 1) := dq172 bw_cX11_end_0 16 rfl rfl
theorem dX11_end_17 : decode cX11_end 17 = .ok (.aload_n 0, 1) := dq42 bw_cX11_end_0 17 rfl rfl
theorem dX11_end_18 : decode cX11_end 18 = .ok (.getfield 10, 3) := dq180 bw_cX11_end_0 18 rfl rfl rfl
theorem dX11_end_21 : decode cX11_end 21 = .ok (.iload_n 1, 1) := dq27 bw_cX11_end_0 21 rfl rfl
theorem dX11_end_22 : decode cX11_end 22 = .ok (.putfield 94, 3) := dq181 bw_cX11_end_0 22 rfl rfl rfl
theorem bw_cX11_end_1 : dq_w cX11_end 24 [94, 4, 172] = true := by decide +kernel
theorem dX11_end_25 : decode cX11_end 25 = .ok (.iconst 1, 1) := dq4 bw_cX11_end_1 1 rfl rfl
theorem dX11_end_26 : decode cX11_end 26 = .ok (.ireturn, 1) := dq172 bw_cX11_end_1 2 rfl rfl
theorem bw_cX8_signAt_0 : dq_w cX8_signAt 0 [42, 180, 0, 19, 42, 180, 0, 22, 162, 0, 24, 42, 180, 0, 19, 16, 80, 162, 0, 15, 42, 180, 0, 9, 42, 180, 0] = true := by decide +kernel
theorem dX8_signAt_0 : decode cX8_signAt 0 = .ok (.aload_n 0, 1) := dq42 bw_cX8_signAt_0 0 rfl rfl
theorem dX8_signAt_1 : decode cX8_signAt 1 = .ok (.getfield 19, 3) := dq180 bw_cX8_signAt_0 1 rfl rfl rfl
theorem dX8_signAt_4 : decode cX8_signAt 4 = .ok (.aload_n 0, 1) := dq42 bw_cX8_signAt_0 4 rfl rfl
theorem dX8_signAt_5 : decode cX8_signAt 5 = .ok (.getfield 22, 3) := dq180 bw_cX8_signAt_0 5 rfl rfl rfl
theorem dX8_signAt_8 : decode cX8_signAt 8 = .ok (.if_icmp .ge 24, 3) := dq162 bw_cX8_signAt_0 8 rfl rfl rfl
theorem dX8_signAt_11 : decode cX8_signAt 11 = .ok (.aload_n 0, 1) := dq42 bw_cX8_signAt_0 11 rfl rfl
theorem dX8_signAt_12 : decode cX8_signAt 12 = .ok (.getfield 19, 3) := dq180 bw_cX8_signAt_0 12 rfl rfl rfl
theorem dX8_signAt_15 : decode cX8_signAt 15 = .ok (.bipush 80, 2) := dq16 bw_cX8_signAt_0 15 rfl rfl rfl
theorem dX8_signAt_17 : decode cX8_signAt 17 = .ok (.if_icmp .ge 15, 3) := dq162 bw_cX8_signAt_0 17 rfl rfl rfl
theorem dX8_signAt_20 : decode cX8_signAt 20 = .ok (.aload_n 0, 1) := dq42 bw_cX8_signAt_0 20 rfl rfl
theorem dX8_signAt_21 : decode cX8_signAt 21 = .ok (.getfield 9, 3) := dq180 bw_cX8_signAt_0 21 rfl rfl rfl
theorem bw_cX8_signAt_1 : dq_w cX8_signAt 24 [42, 180, 0, 19, 52, 167, 0, 4, 2, 172] = true := by decide +kernel
theorem dX8_signAt_24 : decode cX8_signAt 24 = .ok (.aload_n 0, 1) := dq42 bw_cX8_signAt_1 0 rfl rfl
theorem dX8_signAt_25 : decode cX8_signAt 25 = .ok (.getfield 19, 3) := dq180 bw_cX8_signAt_1 1 rfl rfl rfl
theorem dX8_signAt_28 : decode cX8_signAt 28 = .ok (.caload, 1) := dq52 bw_cX8_signAt_1 4 rfl rfl
theorem dX8_signAt_29 : decode cX8_signAt 29 = .ok (.goto 4, 3) := dq167 bw_cX8_signAt_1 5 rfl rfl rfl
theorem dX8_signAt_32 : decode cX8_signAt 32 = .ok (.iconst (-1), 1) := dq2 bw_cX8_signAt_1 8 rfl rfl
theorem dX8_signAt_33 : decode cX8_signAt 33 = .ok (.ireturn, 1) := dq172 bw_cX8_signAt_1 9 rfl rfl
theorem bw_cX8_cornerLetter_0 : dq_w cX8_cornerLetter 0 [42, 182, 0, 49, 16, 97, 100, 61, 28, 155, 0, 16, 28, 42, 180, 0, 25, 162, 0, 8, 28, 27, 160, 0, 5, 2, 172] = true := by decide +kernel
theorem dX8_cornerLetter_0 : decode cX8_cornerLetter 0 = .ok (.aload_n 0, 1) := dq42 bw_cX8_cornerLetter_0 0 rfl rfl
theorem dX8_cornerLetter_1 : decode cX8_cornerLetter 1 = .ok (.invokevirtual 49, 3) := dq182 bw_cX8_cornerLetter_0 1 rfl rfl rfl
theorem dX8_cornerLetter_4 : decode cX8_cornerLetter 4 = .ok (.bipush 97, 2) := dq16 bw_cX8_cornerLetter_0 4 rfl rfl rfl
theorem dX8_cornerLetter_6 : decode cX8_cornerLetter 6 = .ok (.isub, 1) := dq100 bw_cX8_cornerLetter_0 6 rfl rfl
theorem dX8_cornerLetter_7 : decode cX8_cornerLetter 7 = .ok (.istore_n 2, 1) := dq61 bw_cX8_cornerLetter_0 7 rfl rfl
theorem dX8_cornerLetter_8 : decode cX8_cornerLetter 8 = .ok (.iload_n 2, 1) := dq28 bw_cX8_cornerLetter_0 8 rfl rfl
theorem dX8_cornerLetter_9 : decode cX8_cornerLetter 9 = .ok (.ifCond .lt 16, 3) := dq155 bw_cX8_cornerLetter_0 9 rfl rfl rfl
theorem dX8_cornerLetter_12 : decode cX8_cornerLetter 12 = .ok (.iload_n 2, 1) := dq28 bw_cX8_cornerLetter_0 12 rfl rfl
theorem dX8_cornerLetter_13 : decode cX8_cornerLetter 13 = .ok (.aload_n 0, 1) := dq42 bw_cX8_cornerLetter_0 13 rfl rfl
theorem dX8_cornerLetter_14 : decode cX8_cornerLetter 14 = .ok (.getfield 25, 3) := dq180 bw_cX8_cornerLetter_0 14 rfl rfl rfl
theorem dX8_cornerLetter_17 : decode cX8_cornerLetter 17 = .ok (.if_icmp .ge 8, 3) := dq162 bw_cX8_cornerLetter_0 17 rfl rfl rfl
theorem dX8_cornerLetter_20 : decode cX8_cornerLetter 20 = .ok (.iload_n 2, 1) := dq28 bw_cX8_cornerLetter_0 20 rfl rfl
theorem dX8_cornerLetter_21 : decode cX8_cornerLetter 21 = .ok (.iload_n 1, 1) := dq27 bw_cX8_cornerLetter_0 21 rfl rfl
theorem dX8_cornerLetter_22 : decode cX8_cornerLetter 22 = .ok (.if_icmp .ne 5, 3) := dq160 bw_cX8_cornerLetter_0 22 rfl rfl rfl
theorem bw_cX8_cornerLetter_1 : dq_w cX8_cornerLetter 24 [5, 2, 172, 42, 89, 180, 0, 19, 4, 96, 181, 0, 19, 28, 172] = true := by decide +kernel
theorem dX8_cornerLetter_25 : decode cX8_cornerLetter 25 = .ok (.iconst (-1), 1) := dq2 bw_cX8_cornerLetter_1 1 rfl rfl
theorem dX8_cornerLetter_26 : decode cX8_cornerLetter 26 = .ok (.ireturn, 1) := dq172 bw_cX8_cornerLetter_1 2 rfl rfl
theorem dX8_cornerLetter_27 : decode cX8_cornerLetter 27 = .ok (.aload_n 0, 1) := dq42 bw_cX8_cornerLetter_1 3 rfl rfl
theorem dX8_cornerLetter_28 : decode cX8_cornerLetter 28 = .ok (.dup, 1) := dq89 bw_cX8_cornerLetter_1 4 rfl rfl
theorem dX8_cornerLetter_29 : decode cX8_cornerLetter 29 = .ok (.getfield 19, 3) := dq180 bw_cX8_cornerLetter_1 5 rfl rfl rfl
theorem dX8_cornerLetter_32 : decode cX8_cornerLetter 32 = .ok (.iconst 1, 1) := dq4 bw_cX8_cornerLetter_1 8 rfl rfl
theorem dX8_cornerLetter_33 : decode cX8_cornerLetter 33 = .ok (.iadd, 1) := dq96 bw_cX8_cornerLetter_1 9 rfl rfl
theorem dX8_cornerLetter_34 : decode cX8_cornerLetter 34 = .ok (.putfield 19, 3) := dq181 bw_cX8_cornerLetter_1 10 rfl rfl rfl
theorem dX8_cornerLetter_37 : decode cX8_cornerLetter 37 = .ok (.iload_n 2, 1) := dq28 bw_cX8_cornerLetter_1 13 rfl rfl
theorem dX8_cornerLetter_38 : decode cX8_cornerLetter 38 = .ok (.ireturn, 1) := dq172 bw_cX8_cornerLetter_1 14 rfl rfl
theorem bw_cX8_digit_0 : dq_w cX8_digit 0 [42, 182, 0, 49, 16, 48, 100, 61, 28, 155, 0, 8, 28, 27, 164, 0, 5, 2, 172, 42, 89, 180, 0, 19, 4, 96, 181] = true := by decide +kernel
theorem dX8_digit_0 : decode cX8_digit 0 = .ok (.aload_n 0, 1) := dq42 bw_cX8_digit_0 0 rfl rfl
theorem dX8_digit_1 : decode cX8_digit 1 = .ok (.invokevirtual 49, 3) := dq182 bw_cX8_digit_0 1 rfl rfl rfl
theorem dX8_digit_4 : decode cX8_digit 4 = .ok (.bipush 48, 2) := dq16 bw_cX8_digit_0 4 rfl rfl rfl
theorem dX8_digit_6 : decode cX8_digit 6 = .ok (.isub, 1) := dq100 bw_cX8_digit_0 6 rfl rfl
theorem dX8_digit_7 : decode cX8_digit 7 = .ok (.istore_n 2, 1) := dq61 bw_cX8_digit_0 7 rfl rfl
theorem dX8_digit_8 : decode cX8_digit 8 = .ok (.iload_n 2, 1) := dq28 bw_cX8_digit_0 8 rfl rfl
theorem dX8_digit_9 : decode cX8_digit 9 = .ok (.ifCond .lt 8, 3) := dq155 bw_cX8_digit_0 9 rfl rfl rfl
theorem dX8_digit_12 : decode cX8_digit 12 = .ok (.iload_n 2, 1) := dq28 bw_cX8_digit_0 12 rfl rfl
theorem dX8_digit_13 : decode cX8_digit 13 = .ok (.iload_n 1, 1) := dq27 bw_cX8_digit_0 13 rfl rfl
theorem dX8_digit_14 : decode cX8_digit 14 = .ok (.if_icmp .le 5, 3) := dq164 bw_cX8_digit_0 14 rfl rfl rfl
theorem dX8_digit_17 : decode cX8_digit 17 = .ok (.iconst (-1), 1) := dq2 bw_cX8_digit_0 17 rfl rfl
theorem dX8_digit_18 : decode cX8_digit 18 = .ok (.ireturn, 1) := dq172 bw_cX8_digit_0 18 rfl rfl
theorem dX8_digit_19 : decode cX8_digit 19 = .ok (.aload_n 0, 1) := dq42 bw_cX8_digit_0 19 rfl rfl
theorem dX8_digit_20 : decode cX8_digit 20 = .ok (.dup, 1) := dq89 bw_cX8_digit_0 20 rfl rfl
theorem dX8_digit_21 : decode cX8_digit 21 = .ok (.getfield 19, 3) := dq180 bw_cX8_digit_0 21 rfl rfl rfl
theorem bw_cX8_digit_1 : dq_w cX8_digit 24 [4, 96, 181, 0, 19, 28, 172] = true := by decide +kernel
theorem dX8_digit_24 : decode cX8_digit 24 = .ok (.iconst 1, 1) := dq4 bw_cX8_digit_1 0 rfl rfl
theorem dX8_digit_25 : decode cX8_digit 25 = .ok (.iadd, 1) := dq96 bw_cX8_digit_1 1 rfl rfl
theorem dX8_digit_26 : decode cX8_digit 26 = .ok (.putfield 19, 3) := dq181 bw_cX8_digit_1 2 rfl rfl rfl
theorem dX8_digit_29 : decode cX8_digit 29 = .ok (.iload_n 2, 1) := dq28 bw_cX8_digit_1 5 rfl rfl
theorem dX8_digit_30 : decode cX8_digit 30 = .ok (.ireturn, 1) := dq172 bw_cX8_digit_1 6 rfl rfl
theorem bw_cX8_longDigits_0 : dq_w cX8_longDigits 0 [42, 16, 9, 182, 0, 59, 60, 27, 156, 0, 5, 2, 172, 42, 16, 9, 182, 0, 59, 61, 28, 155, 0, 10, 16, 10, 27] = true := by decide +kernel
theorem dX8_longDigits_0 : decode cX8_longDigits 0 = .ok (.aload_n 0, 1) := dq42 bw_cX8_longDigits_0 0 rfl rfl
theorem dX8_longDigits_1 : decode cX8_longDigits 1 = .ok (.bipush 9, 2) := dq16 bw_cX8_longDigits_0 1 rfl rfl rfl
theorem dX8_longDigits_3 : decode cX8_longDigits 3 = .ok (.invokevirtual 59, 3) := dq182 bw_cX8_longDigits_0 3 rfl rfl rfl
theorem dX8_longDigits_6 : decode cX8_longDigits 6 = .ok (.istore_n 1, 1) := dq60 bw_cX8_longDigits_0 6 rfl rfl
theorem dX8_longDigits_7 : decode cX8_longDigits 7 = .ok (.iload_n 1, 1) := dq27 bw_cX8_longDigits_0 7 rfl rfl
theorem dX8_longDigits_8 : decode cX8_longDigits 8 = .ok (.ifCond .ge 5, 3) := dq156 bw_cX8_longDigits_0 8 rfl rfl rfl
theorem dX8_longDigits_11 : decode cX8_longDigits 11 = .ok (.iconst (-1), 1) := dq2 bw_cX8_longDigits_0 11 rfl rfl
theorem dX8_longDigits_12 : decode cX8_longDigits 12 = .ok (.ireturn, 1) := dq172 bw_cX8_longDigits_0 12 rfl rfl
theorem dX8_longDigits_13 : decode cX8_longDigits 13 = .ok (.aload_n 0, 1) := dq42 bw_cX8_longDigits_0 13 rfl rfl
theorem dX8_longDigits_14 : decode cX8_longDigits 14 = .ok (.bipush 9, 2) := dq16 bw_cX8_longDigits_0 14 rfl rfl rfl
theorem dX8_longDigits_16 : decode cX8_longDigits 16 = .ok (.invokevirtual 59, 3) := dq182 bw_cX8_longDigits_0 16 rfl rfl rfl
theorem dX8_longDigits_19 : decode cX8_longDigits 19 = .ok (.istore_n 2, 1) := dq61 bw_cX8_longDigits_0 19 rfl rfl
theorem dX8_longDigits_20 : decode cX8_longDigits 20 = .ok (.iload_n 2, 1) := dq28 bw_cX8_longDigits_0 20 rfl rfl
theorem dX8_longDigits_21 : decode cX8_longDigits 21 = .ok (.ifCond .lt 10, 3) := dq155 bw_cX8_longDigits_0 21 rfl rfl rfl
theorem bw_cX8_longDigits_1 : dq_w cX8_longDigits 24 [16, 10, 27, 104, 28, 96, 60, 27, 4, 161, 0, 9, 27, 16, 20, 164, 0, 15, 42, 89, 180, 0, 19, 4, 100, 181, 0] = true := by decide +kernel
theorem dX8_longDigits_24 : decode cX8_longDigits 24 = .ok (.bipush 10, 2) := dq16 bw_cX8_longDigits_1 0 rfl rfl rfl
theorem dX8_longDigits_26 : decode cX8_longDigits 26 = .ok (.iload_n 1, 1) := dq27 bw_cX8_longDigits_1 2 rfl rfl
theorem dX8_longDigits_27 : decode cX8_longDigits 27 = .ok (.imul, 1) := dq104 bw_cX8_longDigits_1 3 rfl rfl
theorem dX8_longDigits_28 : decode cX8_longDigits 28 = .ok (.iload_n 2, 1) := dq28 bw_cX8_longDigits_1 4 rfl rfl
theorem dX8_longDigits_29 : decode cX8_longDigits 29 = .ok (.iadd, 1) := dq96 bw_cX8_longDigits_1 5 rfl rfl
theorem dX8_longDigits_30 : decode cX8_longDigits 30 = .ok (.istore_n 1, 1) := dq60 bw_cX8_longDigits_1 6 rfl rfl
theorem dX8_longDigits_31 : decode cX8_longDigits 31 = .ok (.iload_n 1, 1) := dq27 bw_cX8_longDigits_1 7 rfl rfl
theorem dX8_longDigits_32 : decode cX8_longDigits 32 = .ok (.iconst 1, 1) := dq4 bw_cX8_longDigits_1 8 rfl rfl
theorem dX8_longDigits_33 : decode cX8_longDigits 33 = .ok (.if_icmp .lt 9, 3) := dq161 bw_cX8_longDigits_1 9 rfl rfl rfl
theorem dX8_longDigits_36 : decode cX8_longDigits 36 = .ok (.iload_n 1, 1) := dq27 bw_cX8_longDigits_1 12 rfl rfl
theorem dX8_longDigits_37 : decode cX8_longDigits 37 = .ok (.bipush 20, 2) := dq16 bw_cX8_longDigits_1 13 rfl rfl rfl
theorem dX8_longDigits_39 : decode cX8_longDigits 39 = .ok (.if_icmp .le 15, 3) := dq164 bw_cX8_longDigits_1 15 rfl rfl rfl
theorem dX8_longDigits_42 : decode cX8_longDigits 42 = .ok (.aload_n 0, 1) := dq42 bw_cX8_longDigits_1 18 rfl rfl
theorem dX8_longDigits_43 : decode cX8_longDigits 43 = .ok (.dup, 1) := dq89 bw_cX8_longDigits_1 19 rfl rfl
theorem dX8_longDigits_44 : decode cX8_longDigits 44 = .ok (.getfield 19, 3) := dq180 bw_cX8_longDigits_1 20 rfl rfl rfl
theorem dX8_longDigits_47 : decode cX8_longDigits 47 = .ok (.iconst 1, 1) := dq4 bw_cX8_longDigits_1 23 rfl rfl
theorem bw_cX8_longDigits_2 : dq_w cX8_longDigits 48 [100, 181, 0, 19, 2, 172, 27, 172] = true := by decide +kernel
theorem dX8_longDigits_48 : decode cX8_longDigits 48 = .ok (.isub, 1) := dq100 bw_cX8_longDigits_2 0 rfl rfl
theorem dX8_longDigits_49 : decode cX8_longDigits 49 = .ok (.putfield 19, 3) := dq181 bw_cX8_longDigits_2 1 rfl rfl rfl
theorem dX8_longDigits_52 : decode cX8_longDigits 52 = .ok (.iconst (-1), 1) := dq2 bw_cX8_longDigits_2 4 rfl rfl
theorem dX8_longDigits_53 : decode cX8_longDigits 53 = .ok (.ireturn, 1) := dq172 bw_cX8_longDigits_2 5 rfl rfl
theorem dX8_longDigits_54 : decode cX8_longDigits 54 = .ok (.iload_n 1, 1) := dq27 bw_cX8_longDigits_2 6 rfl rfl
theorem dX8_longDigits_55 : decode cX8_longDigits 55 = .ok (.ireturn, 1) := dq172 bw_cX8_longDigits_2 7 rfl rfl
theorem bw_cX8_skip_0 : dq_w cX8_skip 0 [42, 182, 0, 49, 27, 159, 0, 5, 3, 172, 42, 89, 180, 0, 19, 4, 96, 181, 0, 19, 4, 172] = true := by decide +kernel
theorem dX8_skip_0 : decode cX8_skip 0 = .ok (.aload_n 0, 1) := dq42 bw_cX8_skip_0 0 rfl rfl
theorem dX8_skip_1 : decode cX8_skip 1 = .ok (.invokevirtual 49, 3) := dq182 bw_cX8_skip_0 1 rfl rfl rfl
theorem dX8_skip_4 : decode cX8_skip 4 = .ok (.iload_n 1, 1) := dq27 bw_cX8_skip_0 4 rfl rfl
theorem dX8_skip_5 : decode cX8_skip 5 = .ok (.if_icmp .eq 5, 3) := dq159 bw_cX8_skip_0 5 rfl rfl rfl
theorem dX8_skip_8 : decode cX8_skip 8 = .ok (.iconst 0, 1) := dq3 bw_cX8_skip_0 8 rfl rfl
theorem dX8_skip_9 : decode cX8_skip 9 = .ok (.ireturn, 1) := dq172 bw_cX8_skip_0 9 rfl rfl
theorem dX8_skip_10 : decode cX8_skip 10 = .ok (.aload_n 0, 1) := dq42 bw_cX8_skip_0 10 rfl rfl
theorem dX8_skip_11 : decode cX8_skip 11 = .ok (.dup, 1) := dq89 bw_cX8_skip_0 11 rfl rfl
theorem dX8_skip_12 : decode cX8_skip 12 = .ok (.getfield 19, 3) := dq180 bw_cX8_skip_0 12 rfl rfl rfl
theorem dX8_skip_15 : decode cX8_skip 15 = .ok (.iconst 1, 1) := dq4 bw_cX8_skip_0 15 rfl rfl
theorem dX8_skip_16 : decode cX8_skip 16 = .ok (.iadd, 1) := dq96 bw_cX8_skip_0 16 rfl rfl
theorem dX8_skip_17 : decode cX8_skip 17 = .ok (.putfield 19, 3) := dq181 bw_cX8_skip_0 17 rfl rfl rfl
theorem dX8_skip_20 : decode cX8_skip 20 = .ok (.iconst 1, 1) := dq4 bw_cX8_skip_0 20 rfl rfl
theorem dX8_skip_21 : decode cX8_skip 21 = .ok (.ireturn, 1) := dq172 bw_cX8_skip_0 21 rfl rfl
theorem bw_cX8_marked_0 : dq_w cX8_marked 0 [42, 27, 182, 0, 45, 153, 0, 12, 42, 16, 9, 182, 0, 59, 167, 0, 4, 28, 172] = true := by decide +kernel
theorem dX8_marked_0 : decode cX8_marked 0 = .ok (.aload_n 0, 1) := dq42 bw_cX8_marked_0 0 rfl rfl
theorem dX8_marked_1 : decode cX8_marked 1 = .ok (.iload_n 1, 1) := dq27 bw_cX8_marked_0 1 rfl rfl
theorem dX8_marked_2 : decode cX8_marked 2 = .ok (.invokevirtual 45, 3) := dq182 bw_cX8_marked_0 2 rfl rfl rfl
theorem dX8_marked_5 : decode cX8_marked 5 = .ok (.ifCond .eq 12, 3) := dq153 bw_cX8_marked_0 5 rfl rfl rfl
theorem dX8_marked_8 : decode cX8_marked 8 = .ok (.aload_n 0, 1) := dq42 bw_cX8_marked_0 8 rfl rfl
theorem dX8_marked_9 : decode cX8_marked 9 = .ok (.bipush 9, 2) := dq16 bw_cX8_marked_0 9 rfl rfl rfl
theorem dX8_marked_11 : decode cX8_marked 11 = .ok (.invokevirtual 59, 3) := dq182 bw_cX8_marked_0 11 rfl rfl rfl
theorem dX8_marked_14 : decode cX8_marked 14 = .ok (.goto 4, 3) := dq167 bw_cX8_marked_0 14 rfl rfl rfl
theorem dX8_marked_17 : decode cX8_marked 17 = .ok (.iload_n 2, 1) := dq28 bw_cX8_marked_0 17 rfl rfl
theorem dX8_marked_18 : decode cX8_marked 18 = .ok (.ireturn, 1) := dq172 bw_cX8_marked_0 18 rfl rfl
theorem bw_cX8_readHedge_0 : dq_w cX8_readHedge 0 [42, 180, 0, 28, 16, 14, 161, 0, 5, 3, 172, 42, 2, 182, 0, 70, 61, 28, 156, 0, 7, 2, 167, 0, 8, 42, 28] = true := by decide +kernel
theorem dX8_readHedge_0 : decode cX8_readHedge 0 = .ok (.aload_n 0, 1) := dq42 bw_cX8_readHedge_0 0 rfl rfl
theorem dX8_readHedge_1 : decode cX8_readHedge 1 = .ok (.getfield 28, 3) := dq180 bw_cX8_readHedge_0 1 rfl rfl rfl
theorem dX8_readHedge_4 : decode cX8_readHedge 4 = .ok (.bipush 14, 2) := dq16 bw_cX8_readHedge_0 4 rfl rfl rfl
theorem dX8_readHedge_6 : decode cX8_readHedge 6 = .ok (.if_icmp .lt 5, 3) := dq161 bw_cX8_readHedge_0 6 rfl rfl rfl
theorem dX8_readHedge_9 : decode cX8_readHedge 9 = .ok (.iconst 0, 1) := dq3 bw_cX8_readHedge_0 9 rfl rfl
theorem dX8_readHedge_10 : decode cX8_readHedge 10 = .ok (.ireturn, 1) := dq172 bw_cX8_readHedge_0 10 rfl rfl
theorem dX8_readHedge_11 : decode cX8_readHedge 11 = .ok (.aload_n 0, 1) := dq42 bw_cX8_readHedge_0 11 rfl rfl
theorem dX8_readHedge_12 : decode cX8_readHedge 12 = .ok (.iconst (-1), 1) := dq2 bw_cX8_readHedge_0 12 rfl rfl
theorem dX8_readHedge_13 : decode cX8_readHedge 13 = .ok (.invokevirtual 70, 3) := dq182 bw_cX8_readHedge_0 13 rfl rfl rfl
theorem dX8_readHedge_16 : decode cX8_readHedge 16 = .ok (.istore_n 2, 1) := dq61 bw_cX8_readHedge_0 16 rfl rfl
theorem dX8_readHedge_17 : decode cX8_readHedge 17 = .ok (.iload_n 2, 1) := dq28 bw_cX8_readHedge_0 17 rfl rfl
theorem dX8_readHedge_18 : decode cX8_readHedge 18 = .ok (.ifCond .ge 7, 3) := dq156 bw_cX8_readHedge_0 18 rfl rfl rfl
theorem dX8_readHedge_21 : decode cX8_readHedge 21 = .ok (.iconst (-1), 1) := dq2 bw_cX8_readHedge_0 21 rfl rfl
theorem dX8_readHedge_22 : decode cX8_readHedge 22 = .ok (.goto 8, 3) := dq167 bw_cX8_readHedge_0 22 rfl rfl rfl
theorem bw_cX8_readHedge_1 : dq_w cX8_readHedge 24 [8, 42, 28, 182, 0, 70, 62, 29, 156, 0, 7, 2, 167, 0, 7, 42, 182, 0, 73, 54, 4, 21, 4, 155, 0, 12, 42] = true := by decide +kernel
theorem dX8_readHedge_25 : decode cX8_readHedge 25 = .ok (.aload_n 0, 1) := dq42 bw_cX8_readHedge_1 1 rfl rfl
theorem dX8_readHedge_26 : decode cX8_readHedge 26 = .ok (.iload_n 2, 1) := dq28 bw_cX8_readHedge_1 2 rfl rfl
theorem dX8_readHedge_27 : decode cX8_readHedge 27 = .ok (.invokevirtual 70, 3) := dq182 bw_cX8_readHedge_1 3 rfl rfl rfl
theorem dX8_readHedge_30 : decode cX8_readHedge 30 = .ok (.istore_n 3, 1) := dq62 bw_cX8_readHedge_1 6 rfl rfl
theorem dX8_readHedge_31 : decode cX8_readHedge 31 = .ok (.iload_n 3, 1) := dq29 bw_cX8_readHedge_1 7 rfl rfl
theorem dX8_readHedge_32 : decode cX8_readHedge 32 = .ok (.ifCond .ge 7, 3) := dq156 bw_cX8_readHedge_1 8 rfl rfl rfl
theorem dX8_readHedge_35 : decode cX8_readHedge 35 = .ok (.iconst (-1), 1) := dq2 bw_cX8_readHedge_1 11 rfl rfl
theorem dX8_readHedge_36 : decode cX8_readHedge 36 = .ok (.goto 7, 3) := dq167 bw_cX8_readHedge_1 12 rfl rfl rfl
theorem dX8_readHedge_39 : decode cX8_readHedge 39 = .ok (.aload_n 0, 1) := dq42 bw_cX8_readHedge_1 15 rfl rfl
theorem dX8_readHedge_40 : decode cX8_readHedge 40 = .ok (.invokevirtual 73, 3) := dq182 bw_cX8_readHedge_1 16 rfl rfl rfl
theorem dX8_readHedge_43 : decode cX8_readHedge 43 = .ok (.istore 4, 2) := dq54 bw_cX8_readHedge_1 19 rfl rfl
theorem dX8_readHedge_45 : decode cX8_readHedge 45 = .ok (.iload 4, 2) := dq21 bw_cX8_readHedge_1 21 rfl rfl
theorem dX8_readHedge_47 : decode cX8_readHedge 47 = .ok (.ifCond .lt 12, 3) := dq155 bw_cX8_readHedge_1 23 rfl rfl rfl
theorem bw_cX8_readHedge_2 : dq_w cX8_readHedge 48 [0, 12, 42, 16, 58, 182, 0, 45, 154, 0, 5, 3, 172, 42, 8, 182, 0, 59, 54, 5, 21, 5, 156, 0, 7, 2, 167] = true := by decide +kernel
theorem dX8_readHedge_50 : decode cX8_readHedge 50 = .ok (.aload_n 0, 1) := dq42 bw_cX8_readHedge_2 2 rfl rfl
theorem dX8_readHedge_51 : decode cX8_readHedge 51 = .ok (.bipush 58, 2) := dq16 bw_cX8_readHedge_2 3 rfl rfl rfl
theorem dX8_readHedge_53 : decode cX8_readHedge 53 = .ok (.invokevirtual 45, 3) := dq182 bw_cX8_readHedge_2 5 rfl rfl rfl
theorem dX8_readHedge_56 : decode cX8_readHedge 56 = .ok (.ifCond .ne 5, 3) := dq154 bw_cX8_readHedge_2 8 rfl rfl rfl
theorem dX8_readHedge_59 : decode cX8_readHedge 59 = .ok (.iconst 0, 1) := dq3 bw_cX8_readHedge_2 11 rfl rfl
theorem dX8_readHedge_60 : decode cX8_readHedge 60 = .ok (.ireturn, 1) := dq172 bw_cX8_readHedge_2 12 rfl rfl
theorem dX8_readHedge_61 : decode cX8_readHedge 61 = .ok (.aload_n 0, 1) := dq42 bw_cX8_readHedge_2 13 rfl rfl
theorem dX8_readHedge_62 : decode cX8_readHedge 62 = .ok (.iconst 5, 1) := dq8 bw_cX8_readHedge_2 14 rfl rfl
theorem dX8_readHedge_63 : decode cX8_readHedge 63 = .ok (.invokevirtual 59, 3) := dq182 bw_cX8_readHedge_2 15 rfl rfl rfl
theorem dX8_readHedge_66 : decode cX8_readHedge 66 = .ok (.istore 5, 2) := dq54 bw_cX8_readHedge_2 18 rfl rfl
theorem dX8_readHedge_68 : decode cX8_readHedge 68 = .ok (.iload 5, 2) := dq21 bw_cX8_readHedge_2 20 rfl rfl
theorem dX8_readHedge_70 : decode cX8_readHedge 70 = .ok (.ifCond .ge 7, 3) := dq156 bw_cX8_readHedge_2 22 rfl rfl rfl
theorem bw_cX8_readHedge_3 : dq_w cX8_readHedge 72 [7, 2, 167, 0, 8, 42, 8, 182, 0, 59, 54, 6, 21, 6, 156, 0, 7, 2, 167, 0, 10, 42, 16, 119, 4, 182, 0] = true := by decide +kernel
theorem dX8_readHedge_73 : decode cX8_readHedge 73 = .ok (.iconst (-1), 1) := dq2 bw_cX8_readHedge_3 1 rfl rfl
theorem dX8_readHedge_74 : decode cX8_readHedge 74 = .ok (.goto 8, 3) := dq167 bw_cX8_readHedge_3 2 rfl rfl rfl
theorem dX8_readHedge_77 : decode cX8_readHedge 77 = .ok (.aload_n 0, 1) := dq42 bw_cX8_readHedge_3 5 rfl rfl
theorem dX8_readHedge_78 : decode cX8_readHedge 78 = .ok (.iconst 5, 1) := dq8 bw_cX8_readHedge_3 6 rfl rfl
theorem dX8_readHedge_79 : decode cX8_readHedge 79 = .ok (.invokevirtual 59, 3) := dq182 bw_cX8_readHedge_3 7 rfl rfl rfl
theorem dX8_readHedge_82 : decode cX8_readHedge 82 = .ok (.istore 6, 2) := dq54 bw_cX8_readHedge_3 10 rfl rfl
theorem dX8_readHedge_84 : decode cX8_readHedge 84 = .ok (.iload 6, 2) := dq21 bw_cX8_readHedge_3 12 rfl rfl
theorem dX8_readHedge_86 : decode cX8_readHedge 86 = .ok (.ifCond .ge 7, 3) := dq156 bw_cX8_readHedge_3 14 rfl rfl rfl
theorem dX8_readHedge_89 : decode cX8_readHedge 89 = .ok (.iconst (-1), 1) := dq2 bw_cX8_readHedge_3 17 rfl rfl
theorem dX8_readHedge_90 : decode cX8_readHedge 90 = .ok (.goto 10, 3) := dq167 bw_cX8_readHedge_3 18 rfl rfl rfl
theorem dX8_readHedge_93 : decode cX8_readHedge 93 = .ok (.aload_n 0, 1) := dq42 bw_cX8_readHedge_3 21 rfl rfl
theorem dX8_readHedge_94 : decode cX8_readHedge 94 = .ok (.bipush 119, 2) := dq16 bw_cX8_readHedge_3 22 rfl rfl rfl
theorem bw_cX8_readHedge_4 : dq_w cX8_readHedge 96 [4, 182, 0, 76, 54, 7, 21, 7, 156, 0, 7, 2, 167, 0, 10, 42, 16, 126, 3, 182, 0, 76, 54, 8, 21, 8, 156] = true := by decide +kernel
theorem dX8_readHedge_96 : decode cX8_readHedge 96 = .ok (.iconst 1, 1) := dq4 bw_cX8_readHedge_4 0 rfl rfl
theorem dX8_readHedge_97 : decode cX8_readHedge 97 = .ok (.invokevirtual 76, 3) := dq182 bw_cX8_readHedge_4 1 rfl rfl rfl
theorem dX8_readHedge_100 : decode cX8_readHedge 100 = .ok (.istore 7, 2) := dq54 bw_cX8_readHedge_4 4 rfl rfl
theorem dX8_readHedge_102 : decode cX8_readHedge 102 = .ok (.iload 7, 2) := dq21 bw_cX8_readHedge_4 6 rfl rfl
theorem dX8_readHedge_104 : decode cX8_readHedge 104 = .ok (.ifCond .ge 7, 3) := dq156 bw_cX8_readHedge_4 8 rfl rfl rfl
theorem dX8_readHedge_107 : decode cX8_readHedge 107 = .ok (.iconst (-1), 1) := dq2 bw_cX8_readHedge_4 11 rfl rfl
theorem dX8_readHedge_108 : decode cX8_readHedge 108 = .ok (.goto 10, 3) := dq167 bw_cX8_readHedge_4 12 rfl rfl rfl
theorem dX8_readHedge_111 : decode cX8_readHedge 111 = .ok (.aload_n 0, 1) := dq42 bw_cX8_readHedge_4 15 rfl rfl
theorem dX8_readHedge_112 : decode cX8_readHedge 112 = .ok (.bipush 126, 2) := dq16 bw_cX8_readHedge_4 16 rfl rfl rfl
theorem dX8_readHedge_114 : decode cX8_readHedge 114 = .ok (.iconst 0, 1) := dq3 bw_cX8_readHedge_4 18 rfl rfl
theorem dX8_readHedge_115 : decode cX8_readHedge 115 = .ok (.invokevirtual 76, 3) := dq182 bw_cX8_readHedge_4 19 rfl rfl rfl
theorem dX8_readHedge_118 : decode cX8_readHedge 118 = .ok (.istore 8, 2) := dq54 bw_cX8_readHedge_4 22 rfl rfl
theorem bw_cX8_readHedge_5 : dq_w cX8_readHedge 120 [21, 8, 156, 0, 5, 3, 172, 43, 180, 0, 80, 42, 180, 0, 28, 28, 79, 43, 180, 0, 83, 42, 180, 0, 28, 29, 79] = true := by decide +kernel
theorem dX8_readHedge_120 : decode cX8_readHedge 120 = .ok (.iload 8, 2) := dq21 bw_cX8_readHedge_5 0 rfl rfl
theorem dX8_readHedge_122 : decode cX8_readHedge 122 = .ok (.ifCond .ge 5, 3) := dq156 bw_cX8_readHedge_5 2 rfl rfl rfl
theorem dX8_readHedge_125 : decode cX8_readHedge 125 = .ok (.iconst 0, 1) := dq3 bw_cX8_readHedge_5 5 rfl rfl
theorem dX8_readHedge_126 : decode cX8_readHedge 126 = .ok (.ireturn, 1) := dq172 bw_cX8_readHedge_5 6 rfl rfl
theorem dX8_readHedge_127 : decode cX8_readHedge 127 = .ok (.aload_n 1, 1) := dq43 bw_cX8_readHedge_5 7 rfl rfl
theorem dX8_readHedge_128 : decode cX8_readHedge 128 = .ok (.getfield 80, 3) := dq180 bw_cX8_readHedge_5 8 rfl rfl rfl
theorem dX8_readHedge_131 : decode cX8_readHedge 131 = .ok (.aload_n 0, 1) := dq42 bw_cX8_readHedge_5 11 rfl rfl
theorem dX8_readHedge_132 : decode cX8_readHedge 132 = .ok (.getfield 28, 3) := dq180 bw_cX8_readHedge_5 12 rfl rfl rfl
theorem dX8_readHedge_135 : decode cX8_readHedge 135 = .ok (.iload_n 2, 1) := dq28 bw_cX8_readHedge_5 15 rfl rfl
theorem dX8_readHedge_136 : decode cX8_readHedge 136 = .ok (.iastore, 1) := dq79 bw_cX8_readHedge_5 16 rfl rfl
theorem dX8_readHedge_137 : decode cX8_readHedge 137 = .ok (.aload_n 1, 1) := dq43 bw_cX8_readHedge_5 17 rfl rfl
theorem dX8_readHedge_138 : decode cX8_readHedge 138 = .ok (.getfield 83, 3) := dq180 bw_cX8_readHedge_5 18 rfl rfl rfl
theorem dX8_readHedge_141 : decode cX8_readHedge 141 = .ok (.aload_n 0, 1) := dq42 bw_cX8_readHedge_5 21 rfl rfl
theorem dX8_readHedge_142 : decode cX8_readHedge 142 = .ok (.getfield 28, 3) := dq180 bw_cX8_readHedge_5 22 rfl rfl rfl
theorem bw_cX8_readHedge_6 : dq_w cX8_readHedge 144 [28, 29, 79, 43, 180, 0, 86, 42, 180, 0, 28, 21, 4, 79, 43, 180, 0, 89, 42, 180, 0, 28, 21, 5, 79, 43, 180] = true := by decide +kernel
theorem dX8_readHedge_145 : decode cX8_readHedge 145 = .ok (.iload_n 3, 1) := dq29 bw_cX8_readHedge_6 1 rfl rfl
theorem dX8_readHedge_146 : decode cX8_readHedge 146 = .ok (.iastore, 1) := dq79 bw_cX8_readHedge_6 2 rfl rfl
theorem dX8_readHedge_147 : decode cX8_readHedge 147 = .ok (.aload_n 1, 1) := dq43 bw_cX8_readHedge_6 3 rfl rfl
theorem dX8_readHedge_148 : decode cX8_readHedge 148 = .ok (.getfield 86, 3) := dq180 bw_cX8_readHedge_6 4 rfl rfl rfl
theorem dX8_readHedge_151 : decode cX8_readHedge 151 = .ok (.aload_n 0, 1) := dq42 bw_cX8_readHedge_6 7 rfl rfl
theorem dX8_readHedge_152 : decode cX8_readHedge 152 = .ok (.getfield 28, 3) := dq180 bw_cX8_readHedge_6 8 rfl rfl rfl
theorem dX8_readHedge_155 : decode cX8_readHedge 155 = .ok (.iload 4, 2) := dq21 bw_cX8_readHedge_6 11 rfl rfl
theorem dX8_readHedge_157 : decode cX8_readHedge 157 = .ok (.iastore, 1) := dq79 bw_cX8_readHedge_6 13 rfl rfl
theorem dX8_readHedge_158 : decode cX8_readHedge 158 = .ok (.aload_n 1, 1) := dq43 bw_cX8_readHedge_6 14 rfl rfl
theorem dX8_readHedge_159 : decode cX8_readHedge 159 = .ok (.getfield 89, 3) := dq180 bw_cX8_readHedge_6 15 rfl rfl rfl
theorem dX8_readHedge_162 : decode cX8_readHedge 162 = .ok (.aload_n 0, 1) := dq42 bw_cX8_readHedge_6 18 rfl rfl
theorem dX8_readHedge_163 : decode cX8_readHedge 163 = .ok (.getfield 28, 3) := dq180 bw_cX8_readHedge_6 19 rfl rfl rfl
theorem dX8_readHedge_166 : decode cX8_readHedge 166 = .ok (.iload 5, 2) := dq21 bw_cX8_readHedge_6 22 rfl rfl
theorem bw_cX8_readHedge_7 : dq_w cX8_readHedge 168 [79, 43, 180, 0, 92, 42, 180, 0, 28, 21, 6, 79, 43, 180, 0, 95, 42, 180, 0, 28, 21, 7, 79, 43, 180, 0, 98] = true := by decide +kernel
theorem dX8_readHedge_168 : decode cX8_readHedge 168 = .ok (.iastore, 1) := dq79 bw_cX8_readHedge_7 0 rfl rfl
theorem dX8_readHedge_169 : decode cX8_readHedge 169 = .ok (.aload_n 1, 1) := dq43 bw_cX8_readHedge_7 1 rfl rfl
theorem dX8_readHedge_170 : decode cX8_readHedge 170 = .ok (.getfield 92, 3) := dq180 bw_cX8_readHedge_7 2 rfl rfl rfl
theorem dX8_readHedge_173 : decode cX8_readHedge 173 = .ok (.aload_n 0, 1) := dq42 bw_cX8_readHedge_7 5 rfl rfl
theorem dX8_readHedge_174 : decode cX8_readHedge 174 = .ok (.getfield 28, 3) := dq180 bw_cX8_readHedge_7 6 rfl rfl rfl
theorem dX8_readHedge_177 : decode cX8_readHedge 177 = .ok (.iload 6, 2) := dq21 bw_cX8_readHedge_7 9 rfl rfl
theorem dX8_readHedge_179 : decode cX8_readHedge 179 = .ok (.iastore, 1) := dq79 bw_cX8_readHedge_7 11 rfl rfl
theorem dX8_readHedge_180 : decode cX8_readHedge 180 = .ok (.aload_n 1, 1) := dq43 bw_cX8_readHedge_7 12 rfl rfl
theorem dX8_readHedge_181 : decode cX8_readHedge 181 = .ok (.getfield 95, 3) := dq180 bw_cX8_readHedge_7 13 rfl rfl rfl
theorem dX8_readHedge_184 : decode cX8_readHedge 184 = .ok (.aload_n 0, 1) := dq42 bw_cX8_readHedge_7 16 rfl rfl
theorem dX8_readHedge_185 : decode cX8_readHedge 185 = .ok (.getfield 28, 3) := dq180 bw_cX8_readHedge_7 17 rfl rfl rfl
theorem dX8_readHedge_188 : decode cX8_readHedge 188 = .ok (.iload 7, 2) := dq21 bw_cX8_readHedge_7 20 rfl rfl
theorem dX8_readHedge_190 : decode cX8_readHedge 190 = .ok (.iastore, 1) := dq79 bw_cX8_readHedge_7 22 rfl rfl
theorem dX8_readHedge_191 : decode cX8_readHedge 191 = .ok (.aload_n 1, 1) := dq43 bw_cX8_readHedge_7 23 rfl rfl
theorem bw_cX8_readHedge_8 : dq_w cX8_readHedge 192 [180, 0, 98, 42, 180, 0, 28, 21, 8, 79, 43, 180, 0, 101, 42, 180, 0, 28, 42, 16, 103, 182, 0, 45, 84, 42, 89] = true := by decide +kernel
theorem dX8_readHedge_192 : decode cX8_readHedge 192 = .ok (.getfield 98, 3) := dq180 bw_cX8_readHedge_8 0 rfl rfl rfl
theorem dX8_readHedge_195 : decode cX8_readHedge 195 = .ok (.aload_n 0, 1) := dq42 bw_cX8_readHedge_8 3 rfl rfl
theorem dX8_readHedge_196 : decode cX8_readHedge 196 = .ok (.getfield 28, 3) := dq180 bw_cX8_readHedge_8 4 rfl rfl rfl
theorem dX8_readHedge_199 : decode cX8_readHedge 199 = .ok (.iload 8, 2) := dq21 bw_cX8_readHedge_8 7 rfl rfl
theorem dX8_readHedge_201 : decode cX8_readHedge 201 = .ok (.iastore, 1) := dq79 bw_cX8_readHedge_8 9 rfl rfl
theorem dX8_readHedge_202 : decode cX8_readHedge 202 = .ok (.aload_n 1, 1) := dq43 bw_cX8_readHedge_8 10 rfl rfl
theorem dX8_readHedge_203 : decode cX8_readHedge 203 = .ok (.getfield 101, 3) := dq180 bw_cX8_readHedge_8 11 rfl rfl rfl
theorem dX8_readHedge_206 : decode cX8_readHedge 206 = .ok (.aload_n 0, 1) := dq42 bw_cX8_readHedge_8 14 rfl rfl
theorem dX8_readHedge_207 : decode cX8_readHedge 207 = .ok (.getfield 28, 3) := dq180 bw_cX8_readHedge_8 15 rfl rfl rfl
theorem dX8_readHedge_210 : decode cX8_readHedge 210 = .ok (.aload_n 0, 1) := dq42 bw_cX8_readHedge_8 18 rfl rfl
theorem dX8_readHedge_211 : decode cX8_readHedge 211 = .ok (.bipush 103, 2) := dq16 bw_cX8_readHedge_8 19 rfl rfl rfl
theorem dX8_readHedge_213 : decode cX8_readHedge 213 = .ok (.invokevirtual 45, 3) := dq182 bw_cX8_readHedge_8 21 rfl rfl rfl
theorem bw_cX8_readHedge_9 : dq_w cX8_readHedge 216 [84, 42, 89, 180, 0, 28, 4, 96, 181, 0, 28, 4, 172] = true := by decide +kernel
theorem dX8_readHedge_216 : decode cX8_readHedge 216 = .ok (.bastore, 1) := dq84 bw_cX8_readHedge_9 0 rfl rfl
theorem dX8_readHedge_217 : decode cX8_readHedge 217 = .ok (.aload_n 0, 1) := dq42 bw_cX8_readHedge_9 1 rfl rfl
theorem dX8_readHedge_218 : decode cX8_readHedge 218 = .ok (.dup, 1) := dq89 bw_cX8_readHedge_9 2 rfl rfl
theorem dX8_readHedge_219 : decode cX8_readHedge 219 = .ok (.getfield 28, 3) := dq180 bw_cX8_readHedge_9 3 rfl rfl rfl
theorem dX8_readHedge_222 : decode cX8_readHedge 222 = .ok (.iconst 1, 1) := dq4 bw_cX8_readHedge_9 6 rfl rfl
theorem dX8_readHedge_223 : decode cX8_readHedge 223 = .ok (.iadd, 1) := dq96 bw_cX8_readHedge_9 7 rfl rfl
theorem dX8_readHedge_224 : decode cX8_readHedge 224 = .ok (.putfield 28, 3) := dq181 bw_cX8_readHedge_9 8 rfl rfl rfl
theorem dX8_readHedge_227 : decode cX8_readHedge 227 = .ok (.iconst 1, 1) := dq4 bw_cX8_readHedge_9 11 rfl rfl
theorem dX8_readHedge_228 : decode cX8_readHedge 228 = .ok (.ireturn, 1) := dq172 bw_cX8_readHedge_9 12 rfl rfl
theorem bw_cX8_readCorner_0 : dq_w cX8_readCorner 0 [42, 180, 0, 25, 16, 10, 161, 0, 5, 3, 172, 42, 89, 180, 0, 19, 4, 96, 181, 0, 19, 42, 16, 9, 182, 0, 59] = true := by decide +kernel
theorem dX8_readCorner_0 : decode cX8_readCorner 0 = .ok (.aload_n 0, 1) := dq42 bw_cX8_readCorner_0 0 rfl rfl
theorem dX8_readCorner_1 : decode cX8_readCorner 1 = .ok (.getfield 25, 3) := dq180 bw_cX8_readCorner_0 1 rfl rfl rfl
theorem dX8_readCorner_4 : decode cX8_readCorner 4 = .ok (.bipush 10, 2) := dq16 bw_cX8_readCorner_0 4 rfl rfl rfl
theorem dX8_readCorner_6 : decode cX8_readCorner 6 = .ok (.if_icmp .lt 5, 3) := dq161 bw_cX8_readCorner_0 6 rfl rfl rfl
theorem dX8_readCorner_9 : decode cX8_readCorner 9 = .ok (.iconst 0, 1) := dq3 bw_cX8_readCorner_0 9 rfl rfl
theorem dX8_readCorner_10 : decode cX8_readCorner 10 = .ok (.ireturn, 1) := dq172 bw_cX8_readCorner_0 10 rfl rfl
theorem dX8_readCorner_11 : decode cX8_readCorner 11 = .ok (.aload_n 0, 1) := dq42 bw_cX8_readCorner_0 11 rfl rfl
theorem dX8_readCorner_12 : decode cX8_readCorner 12 = .ok (.dup, 1) := dq89 bw_cX8_readCorner_0 12 rfl rfl
theorem dX8_readCorner_13 : decode cX8_readCorner 13 = .ok (.getfield 19, 3) := dq180 bw_cX8_readCorner_0 13 rfl rfl rfl
theorem dX8_readCorner_16 : decode cX8_readCorner 16 = .ok (.iconst 1, 1) := dq4 bw_cX8_readCorner_0 16 rfl rfl
theorem dX8_readCorner_17 : decode cX8_readCorner 17 = .ok (.iadd, 1) := dq96 bw_cX8_readCorner_0 17 rfl rfl
theorem dX8_readCorner_18 : decode cX8_readCorner 18 = .ok (.putfield 19, 3) := dq181 bw_cX8_readCorner_0 18 rfl rfl rfl
theorem dX8_readCorner_21 : decode cX8_readCorner 21 = .ok (.aload_n 0, 1) := dq42 bw_cX8_readCorner_0 21 rfl rfl
theorem dX8_readCorner_22 : decode cX8_readCorner 22 = .ok (.bipush 9, 2) := dq16 bw_cX8_readCorner_0 22 rfl rfl rfl
theorem bw_cX8_readCorner_1 : dq_w cX8_readCorner 24 [182, 0, 59, 61, 28, 156, 0, 7, 2, 167, 0, 9, 42, 16, 9, 182, 0, 59, 62, 29, 156, 0, 5, 3, 172, 43, 180] = true := by decide +kernel
theorem dX8_readCorner_24 : decode cX8_readCorner 24 = .ok (.invokevirtual 59, 3) := dq182 bw_cX8_readCorner_1 0 rfl rfl rfl
theorem dX8_readCorner_27 : decode cX8_readCorner 27 = .ok (.istore_n 2, 1) := dq61 bw_cX8_readCorner_1 3 rfl rfl
theorem dX8_readCorner_28 : decode cX8_readCorner 28 = .ok (.iload_n 2, 1) := dq28 bw_cX8_readCorner_1 4 rfl rfl
theorem dX8_readCorner_29 : decode cX8_readCorner 29 = .ok (.ifCond .ge 7, 3) := dq156 bw_cX8_readCorner_1 5 rfl rfl rfl
theorem dX8_readCorner_32 : decode cX8_readCorner 32 = .ok (.iconst (-1), 1) := dq2 bw_cX8_readCorner_1 8 rfl rfl
theorem dX8_readCorner_33 : decode cX8_readCorner 33 = .ok (.goto 9, 3) := dq167 bw_cX8_readCorner_1 9 rfl rfl rfl
theorem dX8_readCorner_36 : decode cX8_readCorner 36 = .ok (.aload_n 0, 1) := dq42 bw_cX8_readCorner_1 12 rfl rfl
theorem dX8_readCorner_37 : decode cX8_readCorner 37 = .ok (.bipush 9, 2) := dq16 bw_cX8_readCorner_1 13 rfl rfl rfl
theorem dX8_readCorner_39 : decode cX8_readCorner 39 = .ok (.invokevirtual 59, 3) := dq182 bw_cX8_readCorner_1 15 rfl rfl rfl
theorem dX8_readCorner_42 : decode cX8_readCorner 42 = .ok (.istore_n 3, 1) := dq62 bw_cX8_readCorner_1 18 rfl rfl
theorem dX8_readCorner_43 : decode cX8_readCorner 43 = .ok (.iload_n 3, 1) := dq29 bw_cX8_readCorner_1 19 rfl rfl
theorem dX8_readCorner_44 : decode cX8_readCorner 44 = .ok (.ifCond .ge 5, 3) := dq156 bw_cX8_readCorner_1 20 rfl rfl rfl
theorem dX8_readCorner_47 : decode cX8_readCorner 47 = .ok (.iconst 0, 1) := dq3 bw_cX8_readCorner_1 23 rfl rfl
theorem bw_cX8_readCorner_2 : dq_w cX8_readCorner 48 [172, 43, 180, 0, 63, 42, 180, 0, 25, 28, 79, 43, 180, 0, 67, 42, 180, 0, 25, 29, 79, 42, 89, 180, 0, 25, 4] = true := by decide +kernel
theorem dX8_readCorner_48 : decode cX8_readCorner 48 = .ok (.ireturn, 1) := dq172 bw_cX8_readCorner_2 0 rfl rfl
theorem dX8_readCorner_49 : decode cX8_readCorner 49 = .ok (.aload_n 1, 1) := dq43 bw_cX8_readCorner_2 1 rfl rfl
theorem dX8_readCorner_50 : decode cX8_readCorner 50 = .ok (.getfield 63, 3) := dq180 bw_cX8_readCorner_2 2 rfl rfl rfl
theorem dX8_readCorner_53 : decode cX8_readCorner 53 = .ok (.aload_n 0, 1) := dq42 bw_cX8_readCorner_2 5 rfl rfl
theorem dX8_readCorner_54 : decode cX8_readCorner 54 = .ok (.getfield 25, 3) := dq180 bw_cX8_readCorner_2 6 rfl rfl rfl
theorem dX8_readCorner_57 : decode cX8_readCorner 57 = .ok (.iload_n 2, 1) := dq28 bw_cX8_readCorner_2 9 rfl rfl
theorem dX8_readCorner_58 : decode cX8_readCorner 58 = .ok (.iastore, 1) := dq79 bw_cX8_readCorner_2 10 rfl rfl
theorem dX8_readCorner_59 : decode cX8_readCorner 59 = .ok (.aload_n 1, 1) := dq43 bw_cX8_readCorner_2 11 rfl rfl
theorem dX8_readCorner_60 : decode cX8_readCorner 60 = .ok (.getfield 67, 3) := dq180 bw_cX8_readCorner_2 12 rfl rfl rfl
theorem dX8_readCorner_63 : decode cX8_readCorner 63 = .ok (.aload_n 0, 1) := dq42 bw_cX8_readCorner_2 15 rfl rfl
theorem dX8_readCorner_64 : decode cX8_readCorner 64 = .ok (.getfield 25, 3) := dq180 bw_cX8_readCorner_2 16 rfl rfl rfl
theorem dX8_readCorner_67 : decode cX8_readCorner 67 = .ok (.iload_n 3, 1) := dq29 bw_cX8_readCorner_2 19 rfl rfl
theorem dX8_readCorner_68 : decode cX8_readCorner 68 = .ok (.iastore, 1) := dq79 bw_cX8_readCorner_2 20 rfl rfl
theorem dX8_readCorner_69 : decode cX8_readCorner 69 = .ok (.aload_n 0, 1) := dq42 bw_cX8_readCorner_2 21 rfl rfl
theorem dX8_readCorner_70 : decode cX8_readCorner 70 = .ok (.dup, 1) := dq89 bw_cX8_readCorner_2 22 rfl rfl
theorem dX8_readCorner_71 : decode cX8_readCorner 71 = .ok (.getfield 25, 3) := dq180 bw_cX8_readCorner_2 23 rfl rfl rfl
theorem bw_cX8_readCorner_3 : dq_w cX8_readCorner 72 [0, 25, 4, 96, 181, 0, 25, 4, 172] = true := by decide +kernel
theorem dX8_readCorner_74 : decode cX8_readCorner 74 = .ok (.iconst 1, 1) := dq4 bw_cX8_readCorner_3 2 rfl rfl
theorem dX8_readCorner_75 : decode cX8_readCorner 75 = .ok (.iadd, 1) := dq96 bw_cX8_readCorner_3 3 rfl rfl
theorem dX8_readCorner_76 : decode cX8_readCorner 76 = .ok (.putfield 25, 3) := dq181 bw_cX8_readCorner_3 4 rfl rfl rfl
theorem dX8_readCorner_79 : decode cX8_readCorner 79 = .ok (.iconst 1, 1) := dq4 bw_cX8_readCorner_3 7 rfl rfl
theorem dX8_readCorner_80 : decode cX8_readCorner 80 = .ok (.ireturn, 1) := dq172 bw_cX8_readCorner_3 8 rfl rfl
theorem bw_cX8_readLine_0 : dq_w cX8_readLine 0 [42, 182, 0, 49, 16, 64, 160, 0, 11, 42, 43, 182, 0, 53, 167, 0, 8, 42, 43, 182, 0, 56, 172] = true := by decide +kernel
theorem dX8_readLine_0 : decode cX8_readLine 0 = .ok (.aload_n 0, 1) := dq42 bw_cX8_readLine_0 0 rfl rfl
theorem dX8_readLine_1 : decode cX8_readLine 1 = .ok (.invokevirtual 49, 3) := dq182 bw_cX8_readLine_0 1 rfl rfl rfl
theorem dX8_readLine_4 : decode cX8_readLine 4 = .ok (.bipush 64, 2) := dq16 bw_cX8_readLine_0 4 rfl rfl rfl
theorem dX8_readLine_6 : decode cX8_readLine 6 = .ok (.if_icmp .ne 11, 3) := dq160 bw_cX8_readLine_0 6 rfl rfl rfl
theorem dX8_readLine_9 : decode cX8_readLine 9 = .ok (.aload_n 0, 1) := dq42 bw_cX8_readLine_0 9 rfl rfl
theorem dX8_readLine_10 : decode cX8_readLine 10 = .ok (.aload_n 1, 1) := dq43 bw_cX8_readLine_0 10 rfl rfl
theorem dX8_readLine_11 : decode cX8_readLine 11 = .ok (.invokevirtual 53, 3) := dq182 bw_cX8_readLine_0 11 rfl rfl rfl
theorem dX8_readLine_14 : decode cX8_readLine 14 = .ok (.goto 8, 3) := dq167 bw_cX8_readLine_0 14 rfl rfl rfl
theorem dX8_readLine_17 : decode cX8_readLine 17 = .ok (.aload_n 0, 1) := dq42 bw_cX8_readLine_0 17 rfl rfl
theorem dX8_readLine_18 : decode cX8_readLine 18 = .ok (.aload_n 1, 1) := dq43 bw_cX8_readLine_0 18 rfl rfl
theorem dX8_readLine_19 : decode cX8_readLine 19 = .ok (.invokevirtual 56, 3) := dq182 bw_cX8_readLine_0 19 rfl rfl rfl
theorem dX8_readLine_22 : decode cX8_readLine 22 = .ok (.ireturn, 1) := dq172 bw_cX8_readLine_0 22 rfl rfl
theorem bw_cX8_readLines_0 : dq_w cX8_readLines 0 [42, 3, 181, 0, 19, 42, 42, 180, 0, 15, 16, 76, 184, 0, 31, 181, 0, 22, 42, 43, 180, 0, 37, 181, 0, 25, 42] = true := by decide +kernel
theorem dX8_readLines_0 : decode cX8_readLines 0 = .ok (.aload_n 0, 1) := dq42 bw_cX8_readLines_0 0 rfl rfl
theorem dX8_readLines_1 : decode cX8_readLines 1 = .ok (.iconst 0, 1) := dq3 bw_cX8_readLines_0 1 rfl rfl
theorem dX8_readLines_2 : decode cX8_readLines 2 = .ok (.putfield 19, 3) := dq181 bw_cX8_readLines_0 2 rfl rfl rfl
theorem dX8_readLines_5 : decode cX8_readLines 5 = .ok (.aload_n 0, 1) := dq42 bw_cX8_readLines_0 5 rfl rfl
theorem dX8_readLines_6 : decode cX8_readLines 6 = .ok (.aload_n 0, 1) := dq42 bw_cX8_readLines_0 6 rfl rfl
theorem dX8_readLines_7 : decode cX8_readLines 7 = .ok (.getfield 15, 3) := dq180 bw_cX8_readLines_0 7 rfl rfl rfl
theorem dX8_readLines_10 : decode cX8_readLines 10 = .ok (.bipush 76, 2) := dq16 bw_cX8_readLines_0 10 rfl rfl rfl
theorem dX8_readLines_12 : decode cX8_readLines 12 = .ok (.invokestatic 31, 3) := dq184 bw_cX8_readLines_0 12 rfl rfl rfl
theorem dX8_readLines_15 : decode cX8_readLines 15 = .ok (.putfield 22, 3) := dq181 bw_cX8_readLines_0 15 rfl rfl rfl
theorem dX8_readLines_18 : decode cX8_readLines 18 = .ok (.aload_n 0, 1) := dq42 bw_cX8_readLines_0 18 rfl rfl
theorem dX8_readLines_19 : decode cX8_readLines 19 = .ok (.aload_n 1, 1) := dq43 bw_cX8_readLines_0 19 rfl rfl
theorem dX8_readLines_20 : decode cX8_readLines 20 = .ok (.getfield 37, 3) := dq180 bw_cX8_readLines_0 20 rfl rfl rfl
theorem dX8_readLines_23 : decode cX8_readLines 23 = .ok (.putfield 25, 3) := dq181 bw_cX8_readLines_0 23 rfl rfl rfl
theorem bw_cX8_readLines_1 : dq_w cX8_readLines 24 [0, 25, 42, 43, 180, 0, 40, 181, 0, 28, 3, 61, 4, 62, 29, 153, 0, 37, 28, 16, 76, 163, 0, 31, 42, 43, 182] = true := by decide +kernel
theorem dX8_readLines_26 : decode cX8_readLines 26 = .ok (.aload_n 0, 1) := dq42 bw_cX8_readLines_1 2 rfl rfl
theorem dX8_readLines_27 : decode cX8_readLines 27 = .ok (.aload_n 1, 1) := dq43 bw_cX8_readLines_1 3 rfl rfl
theorem dX8_readLines_28 : decode cX8_readLines 28 = .ok (.getfield 40, 3) := dq180 bw_cX8_readLines_1 4 rfl rfl rfl
theorem dX8_readLines_31 : decode cX8_readLines 31 = .ok (.putfield 28, 3) := dq181 bw_cX8_readLines_1 7 rfl rfl rfl
theorem dX8_readLines_34 : decode cX8_readLines 34 = .ok (.iconst 0, 1) := dq3 bw_cX8_readLines_1 10 rfl rfl
theorem dX8_readLines_35 : decode cX8_readLines 35 = .ok (.istore_n 2, 1) := dq61 bw_cX8_readLines_1 11 rfl rfl
theorem dX8_readLines_36 : decode cX8_readLines 36 = .ok (.iconst 1, 1) := dq4 bw_cX8_readLines_1 12 rfl rfl
theorem dX8_readLines_37 : decode cX8_readLines 37 = .ok (.istore_n 3, 1) := dq62 bw_cX8_readLines_1 13 rfl rfl
theorem dX8_readLines_38 : decode cX8_readLines 38 = .ok (.iload_n 3, 1) := dq29 bw_cX8_readLines_1 14 rfl rfl
theorem dX8_readLines_39 : decode cX8_readLines 39 = .ok (.ifCond .eq 37, 3) := dq153 bw_cX8_readLines_1 15 rfl rfl rfl
theorem dX8_readLines_42 : decode cX8_readLines 42 = .ok (.iload_n 2, 1) := dq28 bw_cX8_readLines_1 18 rfl rfl
theorem dX8_readLines_43 : decode cX8_readLines 43 = .ok (.bipush 76, 2) := dq16 bw_cX8_readLines_1 19 rfl rfl rfl
theorem dX8_readLines_45 : decode cX8_readLines 45 = .ok (.if_icmp .gt 31, 3) := dq163 bw_cX8_readLines_1 21 rfl rfl rfl
theorem bw_cX8_readLines_2 : dq_w cX8_readLines 48 [42, 43, 182, 0, 41, 154, 0, 10, 2, 42, 180, 0, 19, 100, 172, 132, 2, 1, 42, 16, 59, 182, 0, 45, 62, 167, 255] = true := by decide +kernel
theorem dX8_readLines_48 : decode cX8_readLines 48 = .ok (.aload_n 0, 1) := dq42 bw_cX8_readLines_2 0 rfl rfl
theorem dX8_readLines_49 : decode cX8_readLines 49 = .ok (.aload_n 1, 1) := dq43 bw_cX8_readLines_2 1 rfl rfl
theorem dX8_readLines_50 : decode cX8_readLines 50 = .ok (.invokevirtual 41, 3) := dq182 bw_cX8_readLines_2 2 rfl rfl rfl
theorem dX8_readLines_53 : decode cX8_readLines 53 = .ok (.ifCond .ne 10, 3) := dq154 bw_cX8_readLines_2 5 rfl rfl rfl
theorem dX8_readLines_56 : decode cX8_readLines 56 = .ok (.iconst (-1), 1) := dq2 bw_cX8_readLines_2 8 rfl rfl
theorem dX8_readLines_57 : decode cX8_readLines 57 = .ok (.aload_n 0, 1) := dq42 bw_cX8_readLines_2 9 rfl rfl
theorem dX8_readLines_58 : decode cX8_readLines 58 = .ok (.getfield 19, 3) := dq180 bw_cX8_readLines_2 10 rfl rfl rfl
theorem dX8_readLines_61 : decode cX8_readLines 61 = .ok (.isub, 1) := dq100 bw_cX8_readLines_2 13 rfl rfl
theorem dX8_readLines_62 : decode cX8_readLines 62 = .ok (.ireturn, 1) := dq172 bw_cX8_readLines_2 14 rfl rfl
theorem dX8_readLines_63 : decode cX8_readLines 63 = .ok (.iinc 2 1, 3) := dq132 bw_cX8_readLines_2 15 rfl rfl rfl
theorem dX8_readLines_66 : decode cX8_readLines 66 = .ok (.aload_n 0, 1) := dq42 bw_cX8_readLines_2 18 rfl rfl
theorem dX8_readLines_67 : decode cX8_readLines 67 = .ok (.bipush 59, 2) := dq16 bw_cX8_readLines_2 19 rfl rfl rfl
theorem dX8_readLines_69 : decode cX8_readLines 69 = .ok (.invokevirtual 45, 3) := dq182 bw_cX8_readLines_2 21 rfl rfl rfl
theorem bw_cX8_readLines_3 : dq_w cX8_readLines 72 [62, 167, 255, 221, 42, 180, 0, 19, 42, 180, 0, 15, 162, 0, 10, 2, 42, 180, 0, 19, 100, 172, 43, 42, 180, 0, 25] = true := by decide +kernel
theorem dX8_readLines_72 : decode cX8_readLines 72 = .ok (.istore_n 3, 1) := dq62 bw_cX8_readLines_3 0 rfl rfl
theorem dX8_readLines_73 : decode cX8_readLines 73 = .ok (.goto (-35), 3) := dq167 bw_cX8_readLines_3 1 rfl rfl rfl
theorem dX8_readLines_76 : decode cX8_readLines 76 = .ok (.aload_n 0, 1) := dq42 bw_cX8_readLines_3 4 rfl rfl
theorem dX8_readLines_77 : decode cX8_readLines 77 = .ok (.getfield 19, 3) := dq180 bw_cX8_readLines_3 5 rfl rfl rfl
theorem dX8_readLines_80 : decode cX8_readLines 80 = .ok (.aload_n 0, 1) := dq42 bw_cX8_readLines_3 8 rfl rfl
theorem dX8_readLines_81 : decode cX8_readLines 81 = .ok (.getfield 15, 3) := dq180 bw_cX8_readLines_3 9 rfl rfl rfl
theorem dX8_readLines_84 : decode cX8_readLines 84 = .ok (.if_icmp .ge 10, 3) := dq162 bw_cX8_readLines_3 12 rfl rfl rfl
theorem dX8_readLines_87 : decode cX8_readLines 87 = .ok (.iconst (-1), 1) := dq2 bw_cX8_readLines_3 15 rfl rfl
theorem dX8_readLines_88 : decode cX8_readLines 88 = .ok (.aload_n 0, 1) := dq42 bw_cX8_readLines_3 16 rfl rfl
theorem dX8_readLines_89 : decode cX8_readLines 89 = .ok (.getfield 19, 3) := dq180 bw_cX8_readLines_3 17 rfl rfl rfl
theorem dX8_readLines_92 : decode cX8_readLines 92 = .ok (.isub, 1) := dq100 bw_cX8_readLines_3 20 rfl rfl
theorem dX8_readLines_93 : decode cX8_readLines 93 = .ok (.ireturn, 1) := dq172 bw_cX8_readLines_3 21 rfl rfl
theorem dX8_readLines_94 : decode cX8_readLines 94 = .ok (.aload_n 1, 1) := dq43 bw_cX8_readLines_3 22 rfl rfl
theorem dX8_readLines_95 : decode cX8_readLines 95 = .ok (.aload_n 0, 1) := dq42 bw_cX8_readLines_3 23 rfl rfl
theorem bw_cX8_readLines_4 : dq_w cX8_readLines 96 [180, 0, 25, 181, 0, 37, 43, 42, 180, 0, 28, 181, 0, 40, 28, 172] = true := by decide +kernel
theorem dX8_readLines_96 : decode cX8_readLines 96 = .ok (.getfield 25, 3) := dq180 bw_cX8_readLines_4 0 rfl rfl rfl
theorem dX8_readLines_99 : decode cX8_readLines 99 = .ok (.putfield 37, 3) := dq181 bw_cX8_readLines_4 3 rfl rfl rfl
theorem dX8_readLines_102 : decode cX8_readLines 102 = .ok (.aload_n 1, 1) := dq43 bw_cX8_readLines_4 6 rfl rfl
theorem dX8_readLines_103 : decode cX8_readLines 103 = .ok (.aload_n 0, 1) := dq42 bw_cX8_readLines_4 7 rfl rfl
theorem dX8_readLines_104 : decode cX8_readLines 104 = .ok (.getfield 28, 3) := dq180 bw_cX8_readLines_4 8 rfl rfl rfl
theorem dX8_readLines_107 : decode cX8_readLines 107 = .ok (.putfield 40, 3) := dq181 bw_cX8_readLines_4 11 rfl rfl rfl
theorem dX8_readLines_110 : decode cX8_readLines 110 = .ok (.iload_n 2, 1) := dq28 bw_cX8_readLines_4 14 rfl rfl
theorem dX8_readLines_111 : decode cX8_readLines 111 = .ok (.ireturn, 1) := dq172 bw_cX8_readLines_4 15 rfl rfl
theorem bw_cX11_land_0 : dq_w cX11_land 0 [42, 180, 0, 10, 180, 0, 94, 154, 0, 5, 3, 172, 42, 180, 0, 10, 42, 180, 0, 19, 182, 0, 98, 60, 42, 180, 0] = true := by decide +kernel
theorem dX11_land_0 : decode cX11_land 0 = .ok (.aload_n 0, 1) := dq42 bw_cX11_land_0 0 rfl rfl
theorem dX11_land_1 : decode cX11_land 1 = .ok (.getfield 10, 3) := dq180 bw_cX11_land_0 1 rfl rfl rfl
theorem dX11_land_4 : decode cX11_land 4 = .ok (.getfield 94, 3) := dq180 bw_cX11_land_0 4 rfl rfl rfl
theorem dX11_land_7 : decode cX11_land 7 = .ok (.ifCond .ne 5, 3) := dq154 bw_cX11_land_0 7 rfl rfl rfl
theorem dX11_land_10 : decode cX11_land 10 = .ok (.iconst 0, 1) := dq3 bw_cX11_land_0 10 rfl rfl
theorem dX11_land_11 : decode cX11_land 11 = .ok (.ireturn, 1) := dq172 bw_cX11_land_0 11 rfl rfl
theorem dX11_land_12 : decode cX11_land 12 = .ok (.aload_n 0, 1) := dq42 bw_cX11_land_0 12 rfl rfl
theorem dX11_land_13 : decode cX11_land 13 = .ok (.getfield 10, 3) := dq180 bw_cX11_land_0 13 rfl rfl rfl
theorem dX11_land_16 : decode cX11_land 16 = .ok (.aload_n 0, 1) := dq42 bw_cX11_land_0 16 rfl rfl
theorem dX11_land_17 : decode cX11_land 17 = .ok (.getfield 19, 3) := dq180 bw_cX11_land_0 17 rfl rfl rfl
theorem dX11_land_20 : decode cX11_land 20 = .ok (.invokevirtual 98, 3) := dq182 bw_cX11_land_0 20 rfl rfl rfl
theorem dX11_land_23 : decode cX11_land 23 = .ok (.istore_n 1, 1) := dq60 bw_cX11_land_0 23 rfl rfl
theorem bw_cX11_land_1 : dq_w cX11_land 24 [42, 180, 0, 10, 3, 181, 0, 94, 27, 158, 0, 11, 42, 180, 0, 43, 3, 181, 0, 102, 27, 172] = true := by decide +kernel
theorem dX11_land_24 : decode cX11_land 24 = .ok (.aload_n 0, 1) := dq42 bw_cX11_land_1 0 rfl rfl
theorem dX11_land_25 : decode cX11_land 25 = .ok (.getfield 10, 3) := dq180 bw_cX11_land_1 1 rfl rfl rfl
theorem dX11_land_28 : decode cX11_land 28 = .ok (.iconst 0, 1) := dq3 bw_cX11_land_1 4 rfl rfl
theorem dX11_land_29 : decode cX11_land 29 = .ok (.putfield 94, 3) := dq181 bw_cX11_land_1 5 rfl rfl rfl
theorem dX11_land_32 : decode cX11_land 32 = .ok (.iload_n 1, 1) := dq27 bw_cX11_land_1 8 rfl rfl
theorem dX11_land_33 : decode cX11_land 33 = .ok (.ifCond .le 11, 3) := dq158 bw_cX11_land_1 9 rfl rfl rfl
theorem dX11_land_36 : decode cX11_land 36 = .ok (.aload_n 0, 1) := dq42 bw_cX11_land_1 12 rfl rfl
theorem dX11_land_37 : decode cX11_land 37 = .ok (.getfield 43, 3) := dq180 bw_cX11_land_1 13 rfl rfl rfl
theorem dX11_land_40 : decode cX11_land 40 = .ok (.iconst 0, 1) := dq3 bw_cX11_land_1 16 rfl rfl
theorem dX11_land_41 : decode cX11_land 41 = .ok (.putfield 102, 3) := dq181 bw_cX11_land_1 17 rfl rfl rfl
theorem dX11_land_44 : decode cX11_land 44 = .ok (.iload_n 1, 1) := dq27 bw_cX11_land_1 20 rfl rfl
theorem dX11_land_45 : decode cX11_land 45 = .ok (.ireturn, 1) := dq172 bw_cX11_land_1 21 rfl rfl
theorem bw_cX2_hasHedge_0 : dq_w cX2_hasHedge 0 [27, 155, 0, 15, 27, 42, 180, 0, 15, 162, 0, 7, 4, 167, 0, 4, 3, 172] = true := by decide +kernel
theorem dX2_hasHedge_0 : decode cX2_hasHedge 0 = .ok (.iload_n 1, 1) := dq27 bw_cX2_hasHedge_0 0 rfl rfl
theorem dX2_hasHedge_1 : decode cX2_hasHedge 1 = .ok (.ifCond .lt 15, 3) := dq155 bw_cX2_hasHedge_0 1 rfl rfl rfl
theorem dX2_hasHedge_4 : decode cX2_hasHedge 4 = .ok (.iload_n 1, 1) := dq27 bw_cX2_hasHedge_0 4 rfl rfl
theorem dX2_hasHedge_5 : decode cX2_hasHedge 5 = .ok (.aload_n 0, 1) := dq42 bw_cX2_hasHedge_0 5 rfl rfl
theorem dX2_hasHedge_6 : decode cX2_hasHedge 6 = .ok (.getfield 15, 3) := dq180 bw_cX2_hasHedge_0 6 rfl rfl rfl
theorem dX2_hasHedge_9 : decode cX2_hasHedge 9 = .ok (.if_icmp .ge 7, 3) := dq162 bw_cX2_hasHedge_0 9 rfl rfl rfl
theorem dX2_hasHedge_12 : decode cX2_hasHedge 12 = .ok (.iconst 1, 1) := dq4 bw_cX2_hasHedge_0 12 rfl rfl
theorem dX2_hasHedge_13 : decode cX2_hasHedge 13 = .ok (.goto 4, 3) := dq167 bw_cX2_hasHedge_0 13 rfl rfl rfl
theorem dX2_hasHedge_16 : decode cX2_hasHedge 16 = .ok (.iconst 0, 1) := dq3 bw_cX2_hasHedge_0 16 rfl rfl
theorem dX2_hasHedge_17 : decode cX2_hasHedge 17 = .ok (.ireturn, 1) := dq172 bw_cX2_hasHedge_0 17 rfl rfl
theorem bw_cX6_day_0 : dq_w cX6_day 0 [42, 180, 0, 15, 16, 60, 108, 172] = true := by decide +kernel
theorem dX6_day_0 : decode cX6_day 0 = .ok (.aload_n 0, 1) := dq42 bw_cX6_day_0 0 rfl rfl
theorem dX6_day_1 : decode cX6_day 1 = .ok (.getfield 15, 3) := dq180 bw_cX6_day_0 1 rfl rfl rfl
theorem dX6_day_4 : decode cX6_day 4 = .ok (.bipush 60, 2) := dq16 bw_cX6_day_0 4 rfl rfl rfl
theorem dX6_day_6 : decode cX6_day 6 = .ok (.idiv, 1) := dq108 bw_cX6_day_0 6 rfl rfl
theorem dX6_day_7 : decode cX6_day 7 = .ok (.ireturn, 1) := dq172 bw_cX6_day_0 7 rfl rfl
theorem bw_cX6_isFresh_0 : dq_w cX6_isFresh 0 [42, 180, 0, 18, 28, 46, 2, 159, 0, 21, 42, 182, 0, 22, 42, 180, 0, 18, 28, 46, 100, 43, 180, 0, 26, 161, 0] = true := by decide +kernel
theorem dX6_isFresh_0 : decode cX6_isFresh 0 = .ok (.aload_n 0, 1) := dq42 bw_cX6_isFresh_0 0 rfl rfl
theorem dX6_isFresh_1 : decode cX6_isFresh 1 = .ok (.getfield 18, 3) := dq180 bw_cX6_isFresh_0 1 rfl rfl rfl
theorem dX6_isFresh_4 : decode cX6_isFresh 4 = .ok (.iload_n 2, 1) := dq28 bw_cX6_isFresh_0 4 rfl rfl
theorem dX6_isFresh_5 : decode cX6_isFresh 5 = .ok (.iaload, 1) := dq46 bw_cX6_isFresh_0 5 rfl rfl
theorem dX6_isFresh_6 : decode cX6_isFresh 6 = .ok (.iconst (-1), 1) := dq2 bw_cX6_isFresh_0 6 rfl rfl
theorem dX6_isFresh_7 : decode cX6_isFresh 7 = .ok (.if_icmp .eq 21, 3) := dq159 bw_cX6_isFresh_0 7 rfl rfl rfl
theorem dX6_isFresh_10 : decode cX6_isFresh 10 = .ok (.aload_n 0, 1) := dq42 bw_cX6_isFresh_0 10 rfl rfl
theorem dX6_isFresh_11 : decode cX6_isFresh 11 = .ok (.invokevirtual 22, 3) := dq182 bw_cX6_isFresh_0 11 rfl rfl rfl
theorem dX6_isFresh_14 : decode cX6_isFresh 14 = .ok (.aload_n 0, 1) := dq42 bw_cX6_isFresh_0 14 rfl rfl
theorem dX6_isFresh_15 : decode cX6_isFresh 15 = .ok (.getfield 18, 3) := dq180 bw_cX6_isFresh_0 15 rfl rfl rfl
theorem dX6_isFresh_18 : decode cX6_isFresh 18 = .ok (.iload_n 2, 1) := dq28 bw_cX6_isFresh_0 18 rfl rfl
theorem dX6_isFresh_19 : decode cX6_isFresh 19 = .ok (.iaload, 1) := dq46 bw_cX6_isFresh_0 19 rfl rfl
theorem dX6_isFresh_20 : decode cX6_isFresh 20 = .ok (.isub, 1) := dq100 bw_cX6_isFresh_0 20 rfl rfl
theorem dX6_isFresh_21 : decode cX6_isFresh 21 = .ok (.aload_n 1, 1) := dq43 bw_cX6_isFresh_0 21 rfl rfl
theorem dX6_isFresh_22 : decode cX6_isFresh 22 = .ok (.getfield 26, 3) := dq180 bw_cX6_isFresh_0 22 rfl rfl rfl
theorem bw_cX6_isFresh_1 : dq_w cX6_isFresh 24 [26, 161, 0, 7, 4, 167, 0, 4, 3, 172] = true := by decide +kernel
theorem dX6_isFresh_25 : decode cX6_isFresh 25 = .ok (.if_icmp .lt 7, 3) := dq161 bw_cX6_isFresh_1 1 rfl rfl rfl
theorem dX6_isFresh_28 : decode cX6_isFresh 28 = .ok (.iconst 1, 1) := dq4 bw_cX6_isFresh_1 4 rfl rfl
theorem dX6_isFresh_29 : decode cX6_isFresh 29 = .ok (.goto 4, 3) := dq167 bw_cX6_isFresh_1 5 rfl rfl rfl
theorem dX6_isFresh_32 : decode cX6_isFresh 32 = .ok (.iconst 0, 1) := dq3 bw_cX6_isFresh_1 8 rfl rfl
theorem dX6_isFresh_33 : decode cX6_isFresh 33 = .ok (.ireturn, 1) := dq172 bw_cX6_isFresh_1 9 rfl rfl
theorem bw_cX11_hedge_0 : dq_w cX11_hedge 0 [42, 180, 0, 19, 27, 182, 0, 105, 153, 0, 13, 28, 155, 0, 9, 28, 16, 8, 164, 0, 13, 187, 0, 108, 89, 18, 110] = true := by decide +kernel
theorem dX11_hedge_0 : decode cX11_hedge 0 = .ok (.aload_n 0, 1) := dq42 bw_cX11_hedge_0 0 rfl rfl
theorem dX11_hedge_1 : decode cX11_hedge 1 = .ok (.getfield 19, 3) := dq180 bw_cX11_hedge_0 1 rfl rfl rfl
theorem dX11_hedge_4 : decode cX11_hedge 4 = .ok (.iload_n 1, 1) := dq27 bw_cX11_hedge_0 4 rfl rfl
theorem dX11_hedge_5 : decode cX11_hedge 5 = .ok (.invokevirtual 105, 3) := dq182 bw_cX11_hedge_0 5 rfl rfl rfl
theorem dX11_hedge_8 : decode cX11_hedge 8 = .ok (.ifCond .eq 13, 3) := dq153 bw_cX11_hedge_0 8 rfl rfl rfl
theorem dX11_hedge_11 : decode cX11_hedge 11 = .ok (.iload_n 2, 1) := dq28 bw_cX11_hedge_0 11 rfl rfl
theorem dX11_hedge_12 : decode cX11_hedge 12 = .ok (.ifCond .lt 9, 3) := dq155 bw_cX11_hedge_0 12 rfl rfl rfl
theorem dX11_hedge_15 : decode cX11_hedge 15 = .ok (.iload_n 2, 1) := dq28 bw_cX11_hedge_0 15 rfl rfl
theorem dX11_hedge_16 : decode cX11_hedge 16 = .ok (.bipush 8, 2) := dq16 bw_cX11_hedge_0 16 rfl rfl rfl
theorem dX11_hedge_18 : decode cX11_hedge 18 = .ok (.if_icmp .le 13, 3) := dq164 bw_cX11_hedge_0 18 rfl rfl rfl
theorem dX11_hedge_21 : decode cX11_hedge 21 = .ok (.new 108, 3) := dq187 bw_cX11_hedge_0 21 rfl rfl rfl
theorem bw_cX11_hedge_1 : dq_w cX11_hedge 24 [89, 18, 110, 183, 0, 112, 191, 28, 170, 0, 0, 0, 0, 0, 0, 136, 0, 0, 0, 0, 0, 0, 0, 7, 0, 0, 0] = true := by decide +kernel
theorem dX11_hedge_24 : decode cX11_hedge 24 = .ok (.dup, 1) := dq89 bw_cX11_hedge_1 0 rfl rfl
theorem dX11_hedge_25 : decode cX11_hedge 25 = .ok (.ldc 110, 2) := dq18 bw_cX11_hedge_1 1 rfl rfl
theorem dX11_hedge_27 : decode cX11_hedge 27 = .ok (.invokespecial 112, 3) := dq183 bw_cX11_hedge_1 3 rfl rfl rfl
theorem dX11_hedge_30 : decode cX11_hedge 30 = .ok (.athrow, 1) := dq191 bw_cX11_hedge_1 6 rfl rfl
theorem dX11_hedge_31 : decode cX11_hedge 31 = .ok (.iload_n 2, 1) := dq28 bw_cX11_hedge_1 7 rfl rfl
theorem dX11_hedge_32 : decode cX11_hedge 32 = .ok (.tableswitch 136 0 7 #[48, 58, 68, 78, 88, 98, 108, 118], 48) := by decide +kernel
theorem bw_cX11_hedge_3 : dq_w cX11_hedge 72 [0, 0, 0, 108, 0, 0, 0, 118, 42, 180, 0, 19, 180, 0, 115, 27, 46, 172, 42, 180, 0, 19, 180, 0, 119, 27, 46] = true := by decide +kernel
theorem dX11_hedge_80 : decode cX11_hedge 80 = .ok (.aload_n 0, 1) := dq42 bw_cX11_hedge_3 8 rfl rfl
theorem dX11_hedge_81 : decode cX11_hedge 81 = .ok (.getfield 19, 3) := dq180 bw_cX11_hedge_3 9 rfl rfl rfl
theorem dX11_hedge_84 : decode cX11_hedge 84 = .ok (.getfield 115, 3) := dq180 bw_cX11_hedge_3 12 rfl rfl rfl
theorem dX11_hedge_87 : decode cX11_hedge 87 = .ok (.iload_n 1, 1) := dq27 bw_cX11_hedge_3 15 rfl rfl
theorem dX11_hedge_88 : decode cX11_hedge 88 = .ok (.iaload, 1) := dq46 bw_cX11_hedge_3 16 rfl rfl
theorem dX11_hedge_89 : decode cX11_hedge 89 = .ok (.ireturn, 1) := dq172 bw_cX11_hedge_3 17 rfl rfl
theorem dX11_hedge_90 : decode cX11_hedge 90 = .ok (.aload_n 0, 1) := dq42 bw_cX11_hedge_3 18 rfl rfl
theorem dX11_hedge_91 : decode cX11_hedge 91 = .ok (.getfield 19, 3) := dq180 bw_cX11_hedge_3 19 rfl rfl rfl
theorem dX11_hedge_94 : decode cX11_hedge 94 = .ok (.getfield 119, 3) := dq180 bw_cX11_hedge_3 22 rfl rfl rfl
theorem bw_cX11_hedge_4 : dq_w cX11_hedge 96 [119, 27, 46, 172, 42, 180, 0, 19, 180, 0, 122, 27, 46, 172, 42, 180, 0, 19, 180, 0, 125, 27, 46, 172, 42, 180, 0] = true := by decide +kernel
theorem dX11_hedge_97 : decode cX11_hedge 97 = .ok (.iload_n 1, 1) := dq27 bw_cX11_hedge_4 1 rfl rfl
theorem dX11_hedge_98 : decode cX11_hedge 98 = .ok (.iaload, 1) := dq46 bw_cX11_hedge_4 2 rfl rfl
theorem dX11_hedge_99 : decode cX11_hedge 99 = .ok (.ireturn, 1) := dq172 bw_cX11_hedge_4 3 rfl rfl
theorem dX11_hedge_100 : decode cX11_hedge 100 = .ok (.aload_n 0, 1) := dq42 bw_cX11_hedge_4 4 rfl rfl
theorem dX11_hedge_101 : decode cX11_hedge 101 = .ok (.getfield 19, 3) := dq180 bw_cX11_hedge_4 5 rfl rfl rfl
theorem dX11_hedge_104 : decode cX11_hedge 104 = .ok (.getfield 122, 3) := dq180 bw_cX11_hedge_4 8 rfl rfl rfl
theorem dX11_hedge_107 : decode cX11_hedge 107 = .ok (.iload_n 1, 1) := dq27 bw_cX11_hedge_4 11 rfl rfl
theorem dX11_hedge_108 : decode cX11_hedge 108 = .ok (.iaload, 1) := dq46 bw_cX11_hedge_4 12 rfl rfl
theorem dX11_hedge_109 : decode cX11_hedge 109 = .ok (.ireturn, 1) := dq172 bw_cX11_hedge_4 13 rfl rfl
theorem dX11_hedge_110 : decode cX11_hedge 110 = .ok (.aload_n 0, 1) := dq42 bw_cX11_hedge_4 14 rfl rfl
theorem dX11_hedge_111 : decode cX11_hedge 111 = .ok (.getfield 19, 3) := dq180 bw_cX11_hedge_4 15 rfl rfl rfl
theorem dX11_hedge_114 : decode cX11_hedge 114 = .ok (.getfield 125, 3) := dq180 bw_cX11_hedge_4 18 rfl rfl rfl
theorem dX11_hedge_117 : decode cX11_hedge 117 = .ok (.iload_n 1, 1) := dq27 bw_cX11_hedge_4 21 rfl rfl
theorem dX11_hedge_118 : decode cX11_hedge 118 = .ok (.iaload, 1) := dq46 bw_cX11_hedge_4 22 rfl rfl
theorem dX11_hedge_119 : decode cX11_hedge 119 = .ok (.ireturn, 1) := dq172 bw_cX11_hedge_4 23 rfl rfl
theorem bw_cX11_hedge_5 : dq_w cX11_hedge 120 [42, 180, 0, 19, 180, 0, 128, 27, 46, 172, 42, 180, 0, 19, 180, 0, 131, 27, 46, 172, 42, 180, 0, 19, 180, 0, 134] = true := by decide +kernel
theorem dX11_hedge_120 : decode cX11_hedge 120 = .ok (.aload_n 0, 1) := dq42 bw_cX11_hedge_5 0 rfl rfl
theorem dX11_hedge_121 : decode cX11_hedge 121 = .ok (.getfield 19, 3) := dq180 bw_cX11_hedge_5 1 rfl rfl rfl
theorem dX11_hedge_124 : decode cX11_hedge 124 = .ok (.getfield 128, 3) := dq180 bw_cX11_hedge_5 4 rfl rfl rfl
theorem dX11_hedge_127 : decode cX11_hedge 127 = .ok (.iload_n 1, 1) := dq27 bw_cX11_hedge_5 7 rfl rfl
theorem dX11_hedge_128 : decode cX11_hedge 128 = .ok (.iaload, 1) := dq46 bw_cX11_hedge_5 8 rfl rfl
theorem dX11_hedge_129 : decode cX11_hedge 129 = .ok (.ireturn, 1) := dq172 bw_cX11_hedge_5 9 rfl rfl
theorem dX11_hedge_130 : decode cX11_hedge 130 = .ok (.aload_n 0, 1) := dq42 bw_cX11_hedge_5 10 rfl rfl
theorem dX11_hedge_131 : decode cX11_hedge 131 = .ok (.getfield 19, 3) := dq180 bw_cX11_hedge_5 11 rfl rfl rfl
theorem dX11_hedge_134 : decode cX11_hedge 134 = .ok (.getfield 131, 3) := dq180 bw_cX11_hedge_5 14 rfl rfl rfl
theorem dX11_hedge_137 : decode cX11_hedge 137 = .ok (.iload_n 1, 1) := dq27 bw_cX11_hedge_5 17 rfl rfl
theorem dX11_hedge_138 : decode cX11_hedge 138 = .ok (.iaload, 1) := dq46 bw_cX11_hedge_5 18 rfl rfl
theorem dX11_hedge_139 : decode cX11_hedge 139 = .ok (.ireturn, 1) := dq172 bw_cX11_hedge_5 19 rfl rfl
theorem dX11_hedge_140 : decode cX11_hedge 140 = .ok (.aload_n 0, 1) := dq42 bw_cX11_hedge_5 20 rfl rfl
theorem dX11_hedge_141 : decode cX11_hedge 141 = .ok (.getfield 19, 3) := dq180 bw_cX11_hedge_5 21 rfl rfl rfl
theorem bw_cX11_hedge_6 : dq_w cX11_hedge 144 [180, 0, 134, 27, 46, 172, 42, 180, 0, 19, 180, 0, 137, 27, 51, 153, 0, 7, 4, 167, 0, 4, 3, 172, 42, 180, 0] = true := by decide +kernel
theorem dX11_hedge_144 : decode cX11_hedge 144 = .ok (.getfield 134, 3) := dq180 bw_cX11_hedge_6 0 rfl rfl rfl
theorem dX11_hedge_147 : decode cX11_hedge 147 = .ok (.iload_n 1, 1) := dq27 bw_cX11_hedge_6 3 rfl rfl
theorem dX11_hedge_148 : decode cX11_hedge 148 = .ok (.iaload, 1) := dq46 bw_cX11_hedge_6 4 rfl rfl
theorem dX11_hedge_149 : decode cX11_hedge 149 = .ok (.ireturn, 1) := dq172 bw_cX11_hedge_6 5 rfl rfl
theorem dX11_hedge_150 : decode cX11_hedge 150 = .ok (.aload_n 0, 1) := dq42 bw_cX11_hedge_6 6 rfl rfl
theorem dX11_hedge_151 : decode cX11_hedge 151 = .ok (.getfield 19, 3) := dq180 bw_cX11_hedge_6 7 rfl rfl rfl
theorem dX11_hedge_154 : decode cX11_hedge 154 = .ok (.getfield 137, 3) := dq180 bw_cX11_hedge_6 10 rfl rfl rfl
theorem dX11_hedge_157 : decode cX11_hedge 157 = .ok (.iload_n 1, 1) := dq27 bw_cX11_hedge_6 13 rfl rfl
theorem dX11_hedge_158 : decode cX11_hedge 158 = .ok (.baload, 1) := dq51 bw_cX11_hedge_6 14 rfl rfl
theorem dX11_hedge_159 : decode cX11_hedge 159 = .ok (.ifCond .eq 7, 3) := dq153 bw_cX11_hedge_6 15 rfl rfl rfl
theorem dX11_hedge_162 : decode cX11_hedge 162 = .ok (.iconst 1, 1) := dq4 bw_cX11_hedge_6 18 rfl rfl
theorem dX11_hedge_163 : decode cX11_hedge 163 = .ok (.goto 4, 3) := dq167 bw_cX11_hedge_6 19 rfl rfl rfl
theorem dX11_hedge_166 : decode cX11_hedge 166 = .ok (.iconst 0, 1) := dq3 bw_cX11_hedge_6 22 rfl rfl
theorem dX11_hedge_167 : decode cX11_hedge 167 = .ok (.ireturn, 1) := dq172 bw_cX11_hedge_6 23 rfl rfl
theorem bw_cX11_hedge_7 : dq_w cX11_hedge 168 [42, 180, 0, 33, 42, 180, 0, 19, 27, 182, 0, 140, 153, 0, 7, 4, 167, 0, 4, 3, 172] = true := by decide +kernel
theorem dX11_hedge_168 : decode cX11_hedge 168 = .ok (.aload_n 0, 1) := dq42 bw_cX11_hedge_7 0 rfl rfl
theorem dX11_hedge_169 : decode cX11_hedge 169 = .ok (.getfield 33, 3) := dq180 bw_cX11_hedge_7 1 rfl rfl rfl
theorem dX11_hedge_172 : decode cX11_hedge 172 = .ok (.aload_n 0, 1) := dq42 bw_cX11_hedge_7 4 rfl rfl
theorem dX11_hedge_173 : decode cX11_hedge 173 = .ok (.getfield 19, 3) := dq180 bw_cX11_hedge_7 5 rfl rfl rfl
theorem dX11_hedge_176 : decode cX11_hedge 176 = .ok (.iload_n 1, 1) := dq27 bw_cX11_hedge_7 8 rfl rfl
theorem dX11_hedge_177 : decode cX11_hedge 177 = .ok (.invokevirtual 140, 3) := dq182 bw_cX11_hedge_7 9 rfl rfl rfl
theorem dX11_hedge_180 : decode cX11_hedge 180 = .ok (.ifCond .eq 7, 3) := dq153 bw_cX11_hedge_7 12 rfl rfl rfl
theorem dX11_hedge_183 : decode cX11_hedge 183 = .ok (.iconst 1, 1) := dq4 bw_cX11_hedge_7 15 rfl rfl
theorem dX11_hedge_184 : decode cX11_hedge 184 = .ok (.goto 4, 3) := dq167 bw_cX11_hedge_7 16 rfl rfl rfl
theorem dX11_hedge_187 : decode cX11_hedge 187 = .ok (.iconst 0, 1) := dq3 bw_cX11_hedge_7 19 rfl rfl
theorem dX11_hedge_188 : decode cX11_hedge 188 = .ok (.ireturn, 1) := dq172 bw_cX11_hedge_7 20 rfl rfl
theorem bw_cX2_hasCorner_0 : dq_w cX2_hasCorner 0 [27, 155, 0, 15, 27, 42, 180, 0, 9, 162, 0, 7, 4, 167, 0, 4, 3, 172] = true := by decide +kernel
theorem dX2_hasCorner_0 : decode cX2_hasCorner 0 = .ok (.iload_n 1, 1) := dq27 bw_cX2_hasCorner_0 0 rfl rfl
theorem dX2_hasCorner_1 : decode cX2_hasCorner 1 = .ok (.ifCond .lt 15, 3) := dq155 bw_cX2_hasCorner_0 1 rfl rfl rfl
theorem dX2_hasCorner_4 : decode cX2_hasCorner 4 = .ok (.iload_n 1, 1) := dq27 bw_cX2_hasCorner_0 4 rfl rfl
theorem dX2_hasCorner_5 : decode cX2_hasCorner 5 = .ok (.aload_n 0, 1) := dq42 bw_cX2_hasCorner_0 5 rfl rfl
theorem dX2_hasCorner_6 : decode cX2_hasCorner 6 = .ok (.getfield 9, 3) := dq180 bw_cX2_hasCorner_0 6 rfl rfl rfl
theorem dX2_hasCorner_9 : decode cX2_hasCorner 9 = .ok (.if_icmp .ge 7, 3) := dq162 bw_cX2_hasCorner_0 9 rfl rfl rfl
theorem dX2_hasCorner_12 : decode cX2_hasCorner 12 = .ok (.iconst 1, 1) := dq4 bw_cX2_hasCorner_0 12 rfl rfl
theorem dX2_hasCorner_13 : decode cX2_hasCorner 13 = .ok (.goto 4, 3) := dq167 bw_cX2_hasCorner_0 13 rfl rfl rfl
theorem dX2_hasCorner_16 : decode cX2_hasCorner 16 = .ok (.iconst 0, 1) := dq3 bw_cX2_hasCorner_0 16 rfl rfl
theorem dX2_hasCorner_17 : decode cX2_hasCorner 17 = .ok (.ireturn, 1) := dq172 bw_cX2_hasCorner_0 17 rfl rfl
theorem bw_cX2_grassBetween_0 : dq_w cX2_grassBetween 0 [5, 42, 180, 0, 24, 27, 46, 42, 180, 0, 24, 28, 46, 100, 184, 0, 56, 42, 180, 0, 28, 27, 46, 42, 180, 0, 28] = true := by decide +kernel
theorem dX2_grassBetween_0 : decode cX2_grassBetween 0 = .ok (.iconst 2, 1) := dq5 bw_cX2_grassBetween_0 0 rfl rfl
theorem dX2_grassBetween_1 : decode cX2_grassBetween 1 = .ok (.aload_n 0, 1) := dq42 bw_cX2_grassBetween_0 1 rfl rfl
theorem dX2_grassBetween_2 : decode cX2_grassBetween 2 = .ok (.getfield 24, 3) := dq180 bw_cX2_grassBetween_0 2 rfl rfl rfl
theorem dX2_grassBetween_5 : decode cX2_grassBetween 5 = .ok (.iload_n 1, 1) := dq27 bw_cX2_grassBetween_0 5 rfl rfl
theorem dX2_grassBetween_6 : decode cX2_grassBetween 6 = .ok (.iaload, 1) := dq46 bw_cX2_grassBetween_0 6 rfl rfl
theorem dX2_grassBetween_7 : decode cX2_grassBetween 7 = .ok (.aload_n 0, 1) := dq42 bw_cX2_grassBetween_0 7 rfl rfl
theorem dX2_grassBetween_8 : decode cX2_grassBetween 8 = .ok (.getfield 24, 3) := dq180 bw_cX2_grassBetween_0 8 rfl rfl rfl
theorem dX2_grassBetween_11 : decode cX2_grassBetween 11 = .ok (.iload_n 2, 1) := dq28 bw_cX2_grassBetween_0 11 rfl rfl
theorem dX2_grassBetween_12 : decode cX2_grassBetween 12 = .ok (.iaload, 1) := dq46 bw_cX2_grassBetween_0 12 rfl rfl
theorem dX2_grassBetween_13 : decode cX2_grassBetween 13 = .ok (.isub, 1) := dq100 bw_cX2_grassBetween_0 13 rfl rfl
theorem dX2_grassBetween_14 : decode cX2_grassBetween 14 = .ok (.invokestatic 56, 3) := dq184 bw_cX2_grassBetween_0 14 rfl rfl rfl
theorem dX2_grassBetween_17 : decode cX2_grassBetween 17 = .ok (.aload_n 0, 1) := dq42 bw_cX2_grassBetween_0 17 rfl rfl
theorem dX2_grassBetween_18 : decode cX2_grassBetween 18 = .ok (.getfield 28, 3) := dq180 bw_cX2_grassBetween_0 18 rfl rfl rfl
theorem dX2_grassBetween_21 : decode cX2_grassBetween 21 = .ok (.iload_n 1, 1) := dq27 bw_cX2_grassBetween_0 21 rfl rfl
theorem dX2_grassBetween_22 : decode cX2_grassBetween 22 = .ok (.iaload, 1) := dq46 bw_cX2_grassBetween_0 22 rfl rfl
theorem dX2_grassBetween_23 : decode cX2_grassBetween 23 = .ok (.aload_n 0, 1) := dq42 bw_cX2_grassBetween_0 23 rfl rfl
theorem bw_cX2_grassBetween_1 : dq_w cX2_grassBetween 24 [180, 0, 28, 28, 46, 100, 184, 0, 56, 96, 104, 172] = true := by decide +kernel
theorem dX2_grassBetween_24 : decode cX2_grassBetween 24 = .ok (.getfield 28, 3) := dq180 bw_cX2_grassBetween_1 0 rfl rfl rfl
theorem dX2_grassBetween_27 : decode cX2_grassBetween 27 = .ok (.iload_n 2, 1) := dq28 bw_cX2_grassBetween_1 3 rfl rfl
theorem dX2_grassBetween_28 : decode cX2_grassBetween 28 = .ok (.iaload, 1) := dq46 bw_cX2_grassBetween_1 4 rfl rfl
theorem dX2_grassBetween_29 : decode cX2_grassBetween 29 = .ok (.isub, 1) := dq100 bw_cX2_grassBetween_1 5 rfl rfl
theorem dX2_grassBetween_30 : decode cX2_grassBetween 30 = .ok (.invokestatic 56, 3) := dq184 bw_cX2_grassBetween_1 6 rfl rfl rfl
theorem dX2_grassBetween_33 : decode cX2_grassBetween 33 = .ok (.iadd, 1) := dq96 bw_cX2_grassBetween_1 9 rfl rfl
theorem dX2_grassBetween_34 : decode cX2_grassBetween 34 = .ok (.imul, 1) := dq104 bw_cX2_grassBetween_1 10 rfl rfl
theorem dX2_grassBetween_35 : decode cX2_grassBetween 35 = .ok (.ireturn, 1) := dq172 bw_cX2_grassBetween_1 11 rfl rfl
theorem bw_cX11_grass_0 : dq_w cX11_grass 0 [42, 180, 0, 19, 27, 182, 0, 144, 153, 0, 14, 42, 180, 0, 19, 28, 182, 0, 144, 154, 0, 5, 2, 172, 42, 180, 0] = true := by decide +kernel
theorem dX11_grass_0 : decode cX11_grass 0 = .ok (.aload_n 0, 1) := dq42 bw_cX11_grass_0 0 rfl rfl
theorem dX11_grass_1 : decode cX11_grass 1 = .ok (.getfield 19, 3) := dq180 bw_cX11_grass_0 1 rfl rfl rfl
theorem dX11_grass_4 : decode cX11_grass 4 = .ok (.iload_n 1, 1) := dq27 bw_cX11_grass_0 4 rfl rfl
theorem dX11_grass_5 : decode cX11_grass 5 = .ok (.invokevirtual 144, 3) := dq182 bw_cX11_grass_0 5 rfl rfl rfl
theorem dX11_grass_8 : decode cX11_grass 8 = .ok (.ifCond .eq 14, 3) := dq153 bw_cX11_grass_0 8 rfl rfl rfl
theorem dX11_grass_11 : decode cX11_grass 11 = .ok (.aload_n 0, 1) := dq42 bw_cX11_grass_0 11 rfl rfl
theorem dX11_grass_12 : decode cX11_grass 12 = .ok (.getfield 19, 3) := dq180 bw_cX11_grass_0 12 rfl rfl rfl
theorem dX11_grass_15 : decode cX11_grass 15 = .ok (.iload_n 2, 1) := dq28 bw_cX11_grass_0 15 rfl rfl
theorem dX11_grass_16 : decode cX11_grass 16 = .ok (.invokevirtual 144, 3) := dq182 bw_cX11_grass_0 16 rfl rfl rfl
theorem dX11_grass_19 : decode cX11_grass 19 = .ok (.ifCond .ne 5, 3) := dq154 bw_cX11_grass_0 19 rfl rfl rfl
theorem dX11_grass_22 : decode cX11_grass 22 = .ok (.iconst (-1), 1) := dq2 bw_cX11_grass_0 22 rfl rfl
theorem dX11_grass_23 : decode cX11_grass 23 = .ok (.ireturn, 1) := dq172 bw_cX11_grass_0 23 rfl rfl
theorem bw_cX11_grass_1 : dq_w cX11_grass 24 [42, 180, 0, 19, 27, 28, 182, 0, 147, 172] = true := by decide +kernel
theorem dX11_grass_24 : decode cX11_grass 24 = .ok (.aload_n 0, 1) := dq42 bw_cX11_grass_1 0 rfl rfl
theorem dX11_grass_25 : decode cX11_grass 25 = .ok (.getfield 19, 3) := dq180 bw_cX11_grass_1 1 rfl rfl rfl
theorem dX11_grass_28 : decode cX11_grass 28 = .ok (.iload_n 1, 1) := dq27 bw_cX11_grass_1 4 rfl rfl
theorem dX11_grass_29 : decode cX11_grass 29 = .ok (.iload_n 2, 1) := dq28 bw_cX11_grass_1 5 rfl rfl
theorem dX11_grass_30 : decode cX11_grass 30 = .ok (.invokevirtual 147, 3) := dq182 bw_cX11_grass_1 6 rfl rfl rfl
theorem dX11_grass_33 : decode cX11_grass 33 = .ok (.ireturn, 1) := dq172 bw_cX11_grass_1 9 rfl rfl
theorem bw_cX11_setDigit_0 : dq_w cX11_setDigit 0 [42, 180, 0, 19, 28, 182, 0, 105, 153, 0, 13, 29, 155, 0, 9, 29, 16, 9, 164, 0, 5, 2, 172, 43, 28, 46, 54] = true := by decide +kernel
theorem dX11_setDigit_0 : decode cX11_setDigit 0 = .ok (.aload_n 0, 1) := dq42 bw_cX11_setDigit_0 0 rfl rfl
theorem dX11_setDigit_1 : decode cX11_setDigit 1 = .ok (.getfield 19, 3) := dq180 bw_cX11_setDigit_0 1 rfl rfl rfl
theorem dX11_setDigit_4 : decode cX11_setDigit 4 = .ok (.iload_n 2, 1) := dq28 bw_cX11_setDigit_0 4 rfl rfl
theorem dX11_setDigit_5 : decode cX11_setDigit 5 = .ok (.invokevirtual 105, 3) := dq182 bw_cX11_setDigit_0 5 rfl rfl rfl
theorem dX11_setDigit_8 : decode cX11_setDigit 8 = .ok (.ifCond .eq 13, 3) := dq153 bw_cX11_setDigit_0 8 rfl rfl rfl
theorem dX11_setDigit_11 : decode cX11_setDigit 11 = .ok (.iload_n 3, 1) := dq29 bw_cX11_setDigit_0 11 rfl rfl
theorem dX11_setDigit_12 : decode cX11_setDigit 12 = .ok (.ifCond .lt 9, 3) := dq155 bw_cX11_setDigit_0 12 rfl rfl rfl
theorem dX11_setDigit_15 : decode cX11_setDigit 15 = .ok (.iload_n 3, 1) := dq29 bw_cX11_setDigit_0 15 rfl rfl
theorem dX11_setDigit_16 : decode cX11_setDigit 16 = .ok (.bipush 9, 2) := dq16 bw_cX11_setDigit_0 16 rfl rfl rfl
theorem dX11_setDigit_18 : decode cX11_setDigit 18 = .ok (.if_icmp .le 5, 3) := dq164 bw_cX11_setDigit_0 18 rfl rfl rfl
theorem dX11_setDigit_21 : decode cX11_setDigit 21 = .ok (.iconst (-1), 1) := dq2 bw_cX11_setDigit_0 21 rfl rfl
theorem dX11_setDigit_22 : decode cX11_setDigit 22 = .ok (.ireturn, 1) := dq172 bw_cX11_setDigit_0 22 rfl rfl
theorem dX11_setDigit_23 : decode cX11_setDigit 23 = .ok (.aload_n 1, 1) := dq43 bw_cX11_setDigit_0 23 rfl rfl
theorem bw_cX11_setDigit_1 : dq_w cX11_setDigit 24 [28, 46, 54, 4, 43, 28, 29, 79, 21, 4, 172] = true := by decide +kernel
theorem dX11_setDigit_24 : decode cX11_setDigit 24 = .ok (.iload_n 2, 1) := dq28 bw_cX11_setDigit_1 0 rfl rfl
theorem dX11_setDigit_25 : decode cX11_setDigit 25 = .ok (.iaload, 1) := dq46 bw_cX11_setDigit_1 1 rfl rfl
theorem dX11_setDigit_26 : decode cX11_setDigit 26 = .ok (.istore 4, 2) := dq54 bw_cX11_setDigit_1 2 rfl rfl
theorem dX11_setDigit_28 : decode cX11_setDigit 28 = .ok (.aload_n 1, 1) := dq43 bw_cX11_setDigit_1 4 rfl rfl
theorem dX11_setDigit_29 : decode cX11_setDigit 29 = .ok (.iload_n 2, 1) := dq28 bw_cX11_setDigit_1 5 rfl rfl
theorem dX11_setDigit_30 : decode cX11_setDigit 30 = .ok (.iload_n 3, 1) := dq29 bw_cX11_setDigit_1 6 rfl rfl
theorem dX11_setDigit_31 : decode cX11_setDigit 31 = .ok (.iastore, 1) := dq79 bw_cX11_setDigit_1 7 rfl rfl
theorem dX11_setDigit_32 : decode cX11_setDigit 32 = .ok (.iload 4, 2) := dq21 bw_cX11_setDigit_1 8 rfl rfl
theorem dX11_setDigit_34 : decode cX11_setDigit 34 = .ok (.ireturn, 1) := dq172 bw_cX11_setDigit_1 10 rfl rfl
theorem bw_cX11_setNights_0 : dq_w cX11_setNights 0 [27, 155, 0, 9, 27, 16, 99, 164, 0, 5, 2, 172, 42, 180, 0, 19, 180, 0, 162, 61, 42, 180, 0, 19, 27, 181, 0] = true := by decide +kernel
theorem dX11_setNights_0 : decode cX11_setNights 0 = .ok (.iload_n 1, 1) := dq27 bw_cX11_setNights_0 0 rfl rfl
theorem dX11_setNights_1 : decode cX11_setNights 1 = .ok (.ifCond .lt 9, 3) := dq155 bw_cX11_setNights_0 1 rfl rfl rfl
theorem dX11_setNights_4 : decode cX11_setNights 4 = .ok (.iload_n 1, 1) := dq27 bw_cX11_setNights_0 4 rfl rfl
theorem dX11_setNights_5 : decode cX11_setNights 5 = .ok (.bipush 99, 2) := dq16 bw_cX11_setNights_0 5 rfl rfl rfl
theorem dX11_setNights_7 : decode cX11_setNights 7 = .ok (.if_icmp .le 5, 3) := dq164 bw_cX11_setNights_0 7 rfl rfl rfl
theorem dX11_setNights_10 : decode cX11_setNights 10 = .ok (.iconst (-1), 1) := dq2 bw_cX11_setNights_0 10 rfl rfl
theorem dX11_setNights_11 : decode cX11_setNights 11 = .ok (.ireturn, 1) := dq172 bw_cX11_setNights_0 11 rfl rfl
theorem dX11_setNights_12 : decode cX11_setNights 12 = .ok (.aload_n 0, 1) := dq42 bw_cX11_setNights_0 12 rfl rfl
theorem dX11_setNights_13 : decode cX11_setNights 13 = .ok (.getfield 19, 3) := dq180 bw_cX11_setNights_0 13 rfl rfl rfl
theorem dX11_setNights_16 : decode cX11_setNights 16 = .ok (.getfield 162, 3) := dq180 bw_cX11_setNights_0 16 rfl rfl rfl
theorem dX11_setNights_19 : decode cX11_setNights 19 = .ok (.istore_n 2, 1) := dq61 bw_cX11_setNights_0 19 rfl rfl
theorem dX11_setNights_20 : decode cX11_setNights 20 = .ok (.aload_n 0, 1) := dq42 bw_cX11_setNights_0 20 rfl rfl
theorem dX11_setNights_21 : decode cX11_setNights 21 = .ok (.getfield 19, 3) := dq180 bw_cX11_setNights_0 21 rfl rfl rfl
theorem bw_cX11_setNights_1 : dq_w cX11_setNights 24 [27, 181, 0, 162, 28, 172] = true := by decide +kernel
theorem dX11_setNights_24 : decode cX11_setNights 24 = .ok (.iload_n 1, 1) := dq27 bw_cX11_setNights_1 0 rfl rfl
theorem dX11_setNights_25 : decode cX11_setNights 25 = .ok (.putfield 162, 3) := dq181 bw_cX11_setNights_1 1 rfl rfl rfl
theorem dX11_setNights_28 : decode cX11_setNights 28 = .ok (.iload_n 2, 1) := dq28 bw_cX11_setNights_1 4 rfl rfl
theorem dX11_setNights_29 : decode cX11_setNights 29 = .ok (.ireturn, 1) := dq172 bw_cX11_setNights_1 5 rfl rfl
theorem bw_cX11_setFrost_0 : dq_w cX11_setFrost 0 [27, 155, 0, 10, 27, 17, 39, 15, 164, 0, 5, 2, 172, 42, 180, 0, 19, 180, 0, 165, 61, 42, 180, 0, 19, 27, 181] = true := by decide +kernel
theorem dX11_setFrost_0 : decode cX11_setFrost 0 = .ok (.iload_n 1, 1) := dq27 bw_cX11_setFrost_0 0 rfl rfl
theorem dX11_setFrost_1 : decode cX11_setFrost 1 = .ok (.ifCond .lt 10, 3) := dq155 bw_cX11_setFrost_0 1 rfl rfl rfl
theorem dX11_setFrost_4 : decode cX11_setFrost 4 = .ok (.iload_n 1, 1) := dq27 bw_cX11_setFrost_0 4 rfl rfl
theorem dX11_setFrost_5 : decode cX11_setFrost 5 = .ok (.sipush 9999, 3) := dq17 bw_cX11_setFrost_0 5 rfl rfl rfl
theorem dX11_setFrost_8 : decode cX11_setFrost 8 = .ok (.if_icmp .le 5, 3) := dq164 bw_cX11_setFrost_0 8 rfl rfl rfl
theorem dX11_setFrost_11 : decode cX11_setFrost 11 = .ok (.iconst (-1), 1) := dq2 bw_cX11_setFrost_0 11 rfl rfl
theorem dX11_setFrost_12 : decode cX11_setFrost 12 = .ok (.ireturn, 1) := dq172 bw_cX11_setFrost_0 12 rfl rfl
theorem dX11_setFrost_13 : decode cX11_setFrost 13 = .ok (.aload_n 0, 1) := dq42 bw_cX11_setFrost_0 13 rfl rfl
theorem dX11_setFrost_14 : decode cX11_setFrost 14 = .ok (.getfield 19, 3) := dq180 bw_cX11_setFrost_0 14 rfl rfl rfl
theorem dX11_setFrost_17 : decode cX11_setFrost 17 = .ok (.getfield 165, 3) := dq180 bw_cX11_setFrost_0 17 rfl rfl rfl
theorem dX11_setFrost_20 : decode cX11_setFrost 20 = .ok (.istore_n 2, 1) := dq61 bw_cX11_setFrost_0 20 rfl rfl
theorem dX11_setFrost_21 : decode cX11_setFrost 21 = .ok (.aload_n 0, 1) := dq42 bw_cX11_setFrost_0 21 rfl rfl
theorem dX11_setFrost_22 : decode cX11_setFrost 22 = .ok (.getfield 19, 3) := dq180 bw_cX11_setFrost_0 22 rfl rfl rfl
theorem bw_cX11_setFrost_1 : dq_w cX11_setFrost 24 [19, 27, 181, 0, 165, 28, 172] = true := by decide +kernel
theorem dX11_setFrost_25 : decode cX11_setFrost 25 = .ok (.iload_n 1, 1) := dq27 bw_cX11_setFrost_1 1 rfl rfl
theorem dX11_setFrost_26 : decode cX11_setFrost 26 = .ok (.putfield 165, 3) := dq181 bw_cX11_setFrost_1 2 rfl rfl rfl
theorem dX11_setFrost_29 : decode cX11_setFrost 29 = .ok (.iload_n 2, 1) := dq28 bw_cX11_setFrost_1 5 rfl rfl
theorem dX11_setFrost_30 : decode cX11_setFrost 30 = .ok (.ireturn, 1) := dq172 bw_cX11_setFrost_1 6 rfl rfl
theorem bw_cX11_set_0 : dq_w cX11_set 0 [27, 170, 0, 0, 0, 0, 0, 71, 0, 0, 0, 0, 0, 0, 0, 3, 0, 0, 0, 31, 0, 0, 0, 45, 0, 0, 0] = true := by decide +kernel
theorem dX11_set_0 : decode cX11_set 0 = .ok (.iload_n 1, 1) := dq27 bw_cX11_set_0 0 rfl rfl
theorem dX11_set_1 : decode cX11_set 1 = .ok (.tableswitch 71 0 3 #[31, 45, 59, 65], 31) := by decide +kernel
theorem bw_cX11_set_1 : dq_w cX11_set 24 [0, 0, 0, 59, 0, 0, 0, 65, 42, 42, 180, 0, 19, 180, 0, 131, 28, 29, 182, 0, 151, 172, 42, 42, 180, 0, 19] = true := by decide +kernel
theorem dX11_set_32 : decode cX11_set 32 = .ok (.aload_n 0, 1) := dq42 bw_cX11_set_1 8 rfl rfl
theorem dX11_set_33 : decode cX11_set 33 = .ok (.aload_n 0, 1) := dq42 bw_cX11_set_1 9 rfl rfl
theorem dX11_set_34 : decode cX11_set 34 = .ok (.getfield 19, 3) := dq180 bw_cX11_set_1 10 rfl rfl rfl
theorem dX11_set_37 : decode cX11_set 37 = .ok (.getfield 131, 3) := dq180 bw_cX11_set_1 13 rfl rfl rfl
theorem dX11_set_40 : decode cX11_set 40 = .ok (.iload_n 2, 1) := dq28 bw_cX11_set_1 16 rfl rfl
theorem dX11_set_41 : decode cX11_set 41 = .ok (.iload_n 3, 1) := dq29 bw_cX11_set_1 17 rfl rfl
theorem dX11_set_42 : decode cX11_set 42 = .ok (.invokevirtual 151, 3) := dq182 bw_cX11_set_1 18 rfl rfl rfl
theorem dX11_set_45 : decode cX11_set 45 = .ok (.ireturn, 1) := dq172 bw_cX11_set_1 21 rfl rfl
theorem dX11_set_46 : decode cX11_set 46 = .ok (.aload_n 0, 1) := dq42 bw_cX11_set_1 22 rfl rfl
theorem dX11_set_47 : decode cX11_set 47 = .ok (.aload_n 0, 1) := dq42 bw_cX11_set_1 23 rfl rfl
theorem bw_cX11_set_2 : dq_w cX11_set 48 [180, 0, 19, 180, 0, 134, 28, 29, 182, 0, 151, 172, 42, 29, 182, 0, 155, 172, 42, 29, 182, 0, 159, 172, 2, 172] = true := by decide +kernel
theorem dX11_set_48 : decode cX11_set 48 = .ok (.getfield 19, 3) := dq180 bw_cX11_set_2 0 rfl rfl rfl
theorem dX11_set_51 : decode cX11_set 51 = .ok (.getfield 134, 3) := dq180 bw_cX11_set_2 3 rfl rfl rfl
theorem dX11_set_54 : decode cX11_set 54 = .ok (.iload_n 2, 1) := dq28 bw_cX11_set_2 6 rfl rfl
theorem dX11_set_55 : decode cX11_set 55 = .ok (.iload_n 3, 1) := dq29 bw_cX11_set_2 7 rfl rfl
theorem dX11_set_56 : decode cX11_set 56 = .ok (.invokevirtual 151, 3) := dq182 bw_cX11_set_2 8 rfl rfl rfl
theorem dX11_set_59 : decode cX11_set 59 = .ok (.ireturn, 1) := dq172 bw_cX11_set_2 11 rfl rfl
theorem dX11_set_60 : decode cX11_set 60 = .ok (.aload_n 0, 1) := dq42 bw_cX11_set_2 12 rfl rfl
theorem dX11_set_61 : decode cX11_set 61 = .ok (.iload_n 3, 1) := dq29 bw_cX11_set_2 13 rfl rfl
theorem dX11_set_62 : decode cX11_set 62 = .ok (.invokevirtual 155, 3) := dq182 bw_cX11_set_2 14 rfl rfl rfl
theorem dX11_set_65 : decode cX11_set 65 = .ok (.ireturn, 1) := dq172 bw_cX11_set_2 17 rfl rfl
theorem dX11_set_66 : decode cX11_set 66 = .ok (.aload_n 0, 1) := dq42 bw_cX11_set_2 18 rfl rfl
theorem dX11_set_67 : decode cX11_set 67 = .ok (.iload_n 3, 1) := dq29 bw_cX11_set_2 19 rfl rfl
theorem dX11_set_68 : decode cX11_set 68 = .ok (.invokevirtual 159, 3) := dq182 bw_cX11_set_2 20 rfl rfl rfl
theorem dX11_set_71 : decode cX11_set 71 = .ok (.ireturn, 1) := dq172 bw_cX11_set_2 23 rfl rfl
theorem bw_cX11_set_3 : dq_w cX11_set 72 [2, 172] = true := by decide +kernel
theorem dX11_set_72 : decode cX11_set 72 = .ok (.iconst (-1), 1) := dq2 bw_cX11_set_3 0 rfl rfl
theorem dX11_set_73 : decode cX11_set 73 = .ok (.ireturn, 1) := dq172 bw_cX11_set_3 1 rfl rfl
theorem bw_cX11_sheetEntry_0 : dq_w cX11_sheetEntry 0 [26, 154, 0, 8, 27, 145, 167, 0, 14, 26, 4, 160, 0, 8, 27, 147, 167, 0, 4, 27, 61, 4, 16, 20, 28, 184, 0] = true := by decide +kernel
theorem dX11_sheetEntry_0 : decode cX11_sheetEntry 0 = .ok (.iload_n 0, 1) := dq26 bw_cX11_sheetEntry_0 0 rfl rfl
theorem dX11_sheetEntry_1 : decode cX11_sheetEntry 1 = .ok (.ifCond .ne 8, 3) := dq154 bw_cX11_sheetEntry_0 1 rfl rfl rfl
theorem dX11_sheetEntry_4 : decode cX11_sheetEntry 4 = .ok (.iload_n 1, 1) := dq27 bw_cX11_sheetEntry_0 4 rfl rfl
theorem dX11_sheetEntry_5 : decode cX11_sheetEntry 5 = .ok (.i2b, 1) := dq145 bw_cX11_sheetEntry_0 5 rfl rfl
theorem dX11_sheetEntry_6 : decode cX11_sheetEntry 6 = .ok (.goto 14, 3) := dq167 bw_cX11_sheetEntry_0 6 rfl rfl rfl
theorem dX11_sheetEntry_9 : decode cX11_sheetEntry 9 = .ok (.iload_n 0, 1) := dq26 bw_cX11_sheetEntry_0 9 rfl rfl
theorem dX11_sheetEntry_10 : decode cX11_sheetEntry 10 = .ok (.iconst 1, 1) := dq4 bw_cX11_sheetEntry_0 10 rfl rfl
theorem dX11_sheetEntry_11 : decode cX11_sheetEntry 11 = .ok (.if_icmp .ne 8, 3) := dq160 bw_cX11_sheetEntry_0 11 rfl rfl rfl
theorem dX11_sheetEntry_14 : decode cX11_sheetEntry 14 = .ok (.iload_n 1, 1) := dq27 bw_cX11_sheetEntry_0 14 rfl rfl
theorem dX11_sheetEntry_15 : decode cX11_sheetEntry 15 = .ok (.i2s, 1) := dq147 bw_cX11_sheetEntry_0 15 rfl rfl
theorem dX11_sheetEntry_16 : decode cX11_sheetEntry 16 = .ok (.goto 4, 3) := dq167 bw_cX11_sheetEntry_0 16 rfl rfl rfl
theorem dX11_sheetEntry_19 : decode cX11_sheetEntry 19 = .ok (.iload_n 1, 1) := dq27 bw_cX11_sheetEntry_0 19 rfl rfl
theorem dX11_sheetEntry_20 : decode cX11_sheetEntry 20 = .ok (.istore_n 2, 1) := dq61 bw_cX11_sheetEntry_0 20 rfl rfl
theorem dX11_sheetEntry_21 : decode cX11_sheetEntry 21 = .ok (.iconst 1, 1) := dq4 bw_cX11_sheetEntry_0 21 rfl rfl
theorem dX11_sheetEntry_22 : decode cX11_sheetEntry 22 = .ok (.bipush 20, 2) := dq16 bw_cX11_sheetEntry_0 22 rfl rfl rfl
theorem bw_cX11_sheetEntry_1 : dq_w cX11_sheetEntry 24 [28, 184, 0, 174, 184, 0, 179, 172] = true := by decide +kernel
theorem dX11_sheetEntry_24 : decode cX11_sheetEntry 24 = .ok (.iload_n 2, 1) := dq28 bw_cX11_sheetEntry_1 0 rfl rfl
theorem dX11_sheetEntry_25 : decode cX11_sheetEntry 25 = .ok (.invokestatic 174, 3) := dq184 bw_cX11_sheetEntry_1 1 rfl rfl rfl
theorem dX11_sheetEntry_28 : decode cX11_sheetEntry 28 = .ok (.invokestatic 179, 3) := dq184 bw_cX11_sheetEntry_1 4 rfl rfl rfl
theorem dX11_sheetEntry_31 : decode cX11_sheetEntry 31 = .ok (.ireturn, 1) := dq172 bw_cX11_sheetEntry_1 7 rfl rfl
theorem bw_cX11_sheet_0 : dq_w cX11_sheet 0 [27, 155, 0, 14, 27, 6, 163, 0, 9, 28, 16, 14, 164, 0, 5, 2, 172, 27, 6, 160, 0, 7, 4, 167, 0, 4, 3] = true := by decide +kernel
theorem dX11_sheet_0 : decode cX11_sheet 0 = .ok (.iload_n 1, 1) := dq27 bw_cX11_sheet_0 0 rfl rfl
theorem dX11_sheet_1 : decode cX11_sheet 1 = .ok (.ifCond .lt 14, 3) := dq155 bw_cX11_sheet_0 1 rfl rfl rfl
theorem dX11_sheet_4 : decode cX11_sheet 4 = .ok (.iload_n 1, 1) := dq27 bw_cX11_sheet_0 4 rfl rfl
theorem dX11_sheet_5 : decode cX11_sheet 5 = .ok (.iconst 3, 1) := dq6 bw_cX11_sheet_0 5 rfl rfl
theorem dX11_sheet_6 : decode cX11_sheet 6 = .ok (.if_icmp .gt 9, 3) := dq163 bw_cX11_sheet_0 6 rfl rfl rfl
theorem dX11_sheet_9 : decode cX11_sheet 9 = .ok (.iload_n 2, 1) := dq28 bw_cX11_sheet_0 9 rfl rfl
theorem dX11_sheet_10 : decode cX11_sheet 10 = .ok (.bipush 14, 2) := dq16 bw_cX11_sheet_0 10 rfl rfl rfl
theorem dX11_sheet_12 : decode cX11_sheet 12 = .ok (.if_icmp .le 5, 3) := dq164 bw_cX11_sheet_0 12 rfl rfl rfl
theorem dX11_sheet_15 : decode cX11_sheet 15 = .ok (.iconst (-1), 1) := dq2 bw_cX11_sheet_0 15 rfl rfl
theorem dX11_sheet_16 : decode cX11_sheet 16 = .ok (.ireturn, 1) := dq172 bw_cX11_sheet_0 16 rfl rfl
theorem dX11_sheet_17 : decode cX11_sheet 17 = .ok (.iload_n 1, 1) := dq27 bw_cX11_sheet_0 17 rfl rfl
theorem dX11_sheet_18 : decode cX11_sheet 18 = .ok (.iconst 3, 1) := dq6 bw_cX11_sheet_0 18 rfl rfl
theorem dX11_sheet_19 : decode cX11_sheet 19 = .ok (.if_icmp .ne 7, 3) := dq160 bw_cX11_sheet_0 19 rfl rfl rfl
theorem dX11_sheet_22 : decode cX11_sheet 22 = .ok (.iconst 1, 1) := dq4 bw_cX11_sheet_0 22 rfl rfl
theorem dX11_sheet_23 : decode cX11_sheet 23 = .ok (.goto 4, 3) := dq167 bw_cX11_sheet_0 23 rfl rfl rfl
theorem bw_cX11_sheet_1 : dq_w cX11_sheet 24 [0, 4, 3, 54, 5, 21, 5, 154, 0, 10, 28, 156, 0, 6, 16, 254, 172, 3, 54, 6, 3, 54, 7, 21, 7, 42, 180] = true := by decide +kernel
theorem dX11_sheet_26 : decode cX11_sheet 26 = .ok (.iconst 0, 1) := dq3 bw_cX11_sheet_1 2 rfl rfl
theorem dX11_sheet_27 : decode cX11_sheet 27 = .ok (.istore 5, 2) := dq54 bw_cX11_sheet_1 3 rfl rfl
theorem dX11_sheet_29 : decode cX11_sheet 29 = .ok (.iload 5, 2) := dq21 bw_cX11_sheet_1 5 rfl rfl
theorem dX11_sheet_31 : decode cX11_sheet 31 = .ok (.ifCond .ne 10, 3) := dq154 bw_cX11_sheet_1 7 rfl rfl rfl
theorem dX11_sheet_34 : decode cX11_sheet 34 = .ok (.iload_n 2, 1) := dq28 bw_cX11_sheet_1 10 rfl rfl
theorem dX11_sheet_35 : decode cX11_sheet 35 = .ok (.ifCond .ge 6, 3) := dq156 bw_cX11_sheet_1 11 rfl rfl rfl
theorem dX11_sheet_38 : decode cX11_sheet 38 = .ok (.bipush (-2), 2) := dq16 bw_cX11_sheet_1 14 rfl rfl rfl
theorem dX11_sheet_40 : decode cX11_sheet 40 = .ok (.ireturn, 1) := dq172 bw_cX11_sheet_1 16 rfl rfl
theorem dX11_sheet_41 : decode cX11_sheet 41 = .ok (.iconst 0, 1) := dq3 bw_cX11_sheet_1 17 rfl rfl
theorem dX11_sheet_42 : decode cX11_sheet 42 = .ok (.istore 6, 2) := dq54 bw_cX11_sheet_1 18 rfl rfl
theorem dX11_sheet_44 : decode cX11_sheet 44 = .ok (.iconst 0, 1) := dq3 bw_cX11_sheet_1 20 rfl rfl
theorem dX11_sheet_45 : decode cX11_sheet 45 = .ok (.istore 7, 2) := dq54 bw_cX11_sheet_1 21 rfl rfl
theorem dX11_sheet_47 : decode cX11_sheet 47 = .ok (.iload 7, 2) := dq21 bw_cX11_sheet_1 23 rfl rfl
theorem bw_cX11_sheet_2 : dq_w cX11_sheet 48 [7, 42, 180, 0, 19, 180, 0, 168, 162, 0, 72, 21, 5, 154, 0, 13, 21, 7, 28, 162, 0, 7, 4, 167, 0, 4, 3] = true := by decide +kernel
theorem dX11_sheet_49 : decode cX11_sheet 49 = .ok (.aload_n 0, 1) := dq42 bw_cX11_sheet_2 1 rfl rfl
theorem dX11_sheet_50 : decode cX11_sheet 50 = .ok (.getfield 19, 3) := dq180 bw_cX11_sheet_2 2 rfl rfl rfl
theorem dX11_sheet_53 : decode cX11_sheet 53 = .ok (.getfield 168, 3) := dq180 bw_cX11_sheet_2 5 rfl rfl rfl
theorem dX11_sheet_56 : decode cX11_sheet 56 = .ok (.if_icmp .ge 72, 3) := dq162 bw_cX11_sheet_2 8 rfl rfl rfl
theorem dX11_sheet_59 : decode cX11_sheet 59 = .ok (.iload 5, 2) := dq21 bw_cX11_sheet_2 11 rfl rfl
theorem dX11_sheet_61 : decode cX11_sheet 61 = .ok (.ifCond .ne 13, 3) := dq154 bw_cX11_sheet_2 13 rfl rfl rfl
theorem dX11_sheet_64 : decode cX11_sheet 64 = .ok (.iload 7, 2) := dq21 bw_cX11_sheet_2 16 rfl rfl
theorem dX11_sheet_66 : decode cX11_sheet 66 = .ok (.iload_n 2, 1) := dq28 bw_cX11_sheet_2 18 rfl rfl
theorem dX11_sheet_67 : decode cX11_sheet 67 = .ok (.if_icmp .ge 7, 3) := dq162 bw_cX11_sheet_2 19 rfl rfl rfl
theorem dX11_sheet_70 : decode cX11_sheet 70 = .ok (.iconst 1, 1) := dq4 bw_cX11_sheet_2 22 rfl rfl
theorem dX11_sheet_71 : decode cX11_sheet 71 = .ok (.goto 4, 3) := dq167 bw_cX11_sheet_2 23 rfl rfl rfl
theorem bw_cX11_sheet_3 : dq_w cX11_sheet 72 [0, 4, 3, 54, 8, 42, 180, 0, 19, 180, 0, 122, 21, 7, 21, 8, 153, 0, 17, 27, 29, 21, 7, 21, 4, 104, 96] = true := by decide +kernel
theorem dX11_sheet_74 : decode cX11_sheet 74 = .ok (.iconst 0, 1) := dq3 bw_cX11_sheet_3 2 rfl rfl
theorem dX11_sheet_75 : decode cX11_sheet 75 = .ok (.istore 8, 2) := dq54 bw_cX11_sheet_3 3 rfl rfl
theorem dX11_sheet_77 : decode cX11_sheet 77 = .ok (.aload_n 0, 1) := dq42 bw_cX11_sheet_3 5 rfl rfl
theorem dX11_sheet_78 : decode cX11_sheet 78 = .ok (.getfield 19, 3) := dq180 bw_cX11_sheet_3 6 rfl rfl rfl
theorem dX11_sheet_81 : decode cX11_sheet 81 = .ok (.getfield 122, 3) := dq180 bw_cX11_sheet_3 9 rfl rfl rfl
theorem dX11_sheet_84 : decode cX11_sheet 84 = .ok (.iload 7, 2) := dq21 bw_cX11_sheet_3 12 rfl rfl
theorem dX11_sheet_86 : decode cX11_sheet 86 = .ok (.iload 8, 2) := dq21 bw_cX11_sheet_3 14 rfl rfl
theorem dX11_sheet_88 : decode cX11_sheet 88 = .ok (.ifCond .eq 17, 3) := dq153 bw_cX11_sheet_3 16 rfl rfl rfl
theorem dX11_sheet_91 : decode cX11_sheet 91 = .ok (.iload_n 1, 1) := dq27 bw_cX11_sheet_3 19 rfl rfl
theorem dX11_sheet_92 : decode cX11_sheet 92 = .ok (.iload_n 3, 1) := dq29 bw_cX11_sheet_3 20 rfl rfl
theorem dX11_sheet_93 : decode cX11_sheet 93 = .ok (.iload 7, 2) := dq21 bw_cX11_sheet_3 21 rfl rfl
theorem dX11_sheet_95 : decode cX11_sheet 95 = .ok (.iload 4, 2) := dq21 bw_cX11_sheet_3 23 rfl rfl
theorem bw_cX11_sheet_4 : dq_w cX11_sheet 96 [4, 104, 96, 184, 0, 171, 167, 0, 4, 4, 79, 21, 6, 42, 180, 0, 19, 180, 0, 122, 21, 7, 46, 96, 54, 6, 132] = true := by decide +kernel
theorem dX11_sheet_97 : decode cX11_sheet 97 = .ok (.imul, 1) := dq104 bw_cX11_sheet_4 1 rfl rfl
theorem dX11_sheet_98 : decode cX11_sheet 98 = .ok (.iadd, 1) := dq96 bw_cX11_sheet_4 2 rfl rfl
theorem dX11_sheet_99 : decode cX11_sheet 99 = .ok (.invokestatic 171, 3) := dq184 bw_cX11_sheet_4 3 rfl rfl rfl
theorem dX11_sheet_102 : decode cX11_sheet 102 = .ok (.goto 4, 3) := dq167 bw_cX11_sheet_4 6 rfl rfl rfl
theorem dX11_sheet_105 : decode cX11_sheet 105 = .ok (.iconst 1, 1) := dq4 bw_cX11_sheet_4 9 rfl rfl
theorem dX11_sheet_106 : decode cX11_sheet 106 = .ok (.iastore, 1) := dq79 bw_cX11_sheet_4 10 rfl rfl
theorem dX11_sheet_107 : decode cX11_sheet 107 = .ok (.iload 6, 2) := dq21 bw_cX11_sheet_4 11 rfl rfl
theorem dX11_sheet_109 : decode cX11_sheet 109 = .ok (.aload_n 0, 1) := dq42 bw_cX11_sheet_4 13 rfl rfl
theorem dX11_sheet_110 : decode cX11_sheet 110 = .ok (.getfield 19, 3) := dq180 bw_cX11_sheet_4 14 rfl rfl rfl
theorem dX11_sheet_113 : decode cX11_sheet 113 = .ok (.getfield 122, 3) := dq180 bw_cX11_sheet_4 17 rfl rfl rfl
theorem dX11_sheet_116 : decode cX11_sheet 116 = .ok (.iload 7, 2) := dq21 bw_cX11_sheet_4 20 rfl rfl
theorem dX11_sheet_118 : decode cX11_sheet 118 = .ok (.iaload, 1) := dq46 bw_cX11_sheet_4 22 rfl rfl
theorem dX11_sheet_119 : decode cX11_sheet 119 = .ok (.iadd, 1) := dq96 bw_cX11_sheet_4 23 rfl rfl
theorem bw_cX11_sheet_5 : dq_w cX11_sheet 120 [54, 6, 132, 7, 1, 167, 255, 178, 21, 5, 153, 0, 8, 16, 253, 167, 0, 5, 21, 6, 172] = true := by decide +kernel
theorem dX11_sheet_120 : decode cX11_sheet 120 = .ok (.istore 6, 2) := dq54 bw_cX11_sheet_5 0 rfl rfl
theorem dX11_sheet_122 : decode cX11_sheet 122 = .ok (.iinc 7 1, 3) := dq132 bw_cX11_sheet_5 2 rfl rfl rfl
theorem dX11_sheet_125 : decode cX11_sheet 125 = .ok (.goto (-78), 3) := dq167 bw_cX11_sheet_5 5 rfl rfl rfl
theorem dX11_sheet_128 : decode cX11_sheet 128 = .ok (.iload 5, 2) := dq21 bw_cX11_sheet_5 8 rfl rfl
theorem dX11_sheet_130 : decode cX11_sheet 130 = .ok (.ifCond .eq 8, 3) := dq153 bw_cX11_sheet_5 10 rfl rfl rfl
theorem dX11_sheet_133 : decode cX11_sheet 133 = .ok (.bipush (-3), 2) := dq16 bw_cX11_sheet_5 13 rfl rfl rfl
theorem dX11_sheet_135 : decode cX11_sheet 135 = .ok (.goto 5, 3) := dq167 bw_cX11_sheet_5 15 rfl rfl rfl
theorem dX11_sheet_138 : decode cX11_sheet 138 = .ok (.iload 6, 2) := dq21 bw_cX11_sheet_5 18 rfl rfl
theorem dX11_sheet_140 : decode cX11_sheet 140 = .ok (.ireturn, 1) := dq172 bw_cX11_sheet_5 20 rfl rfl
theorem bw_cX2_touches_0 : dq_w cX2_touches 0 [42, 180, 0, 31, 27, 46, 28, 159, 0, 13, 42, 180, 0, 34, 27, 46, 28, 160, 0, 7, 4, 167, 0, 4, 3, 172] = true := by decide +kernel
theorem dX2_touches_0 : decode cX2_touches 0 = .ok (.aload_n 0, 1) := dq42 bw_cX2_touches_0 0 rfl rfl
theorem dX2_touches_1 : decode cX2_touches 1 = .ok (.getfield 31, 3) := dq180 bw_cX2_touches_0 1 rfl rfl rfl
theorem dX2_touches_4 : decode cX2_touches 4 = .ok (.iload_n 1, 1) := dq27 bw_cX2_touches_0 4 rfl rfl
theorem dX2_touches_5 : decode cX2_touches 5 = .ok (.iaload, 1) := dq46 bw_cX2_touches_0 5 rfl rfl
theorem dX2_touches_6 : decode cX2_touches 6 = .ok (.iload_n 2, 1) := dq28 bw_cX2_touches_0 6 rfl rfl
theorem dX2_touches_7 : decode cX2_touches 7 = .ok (.if_icmp .eq 13, 3) := dq159 bw_cX2_touches_0 7 rfl rfl rfl
theorem dX2_touches_10 : decode cX2_touches 10 = .ok (.aload_n 0, 1) := dq42 bw_cX2_touches_0 10 rfl rfl
theorem dX2_touches_11 : decode cX2_touches 11 = .ok (.getfield 34, 3) := dq180 bw_cX2_touches_0 11 rfl rfl rfl
theorem dX2_touches_14 : decode cX2_touches 14 = .ok (.iload_n 1, 1) := dq27 bw_cX2_touches_0 14 rfl rfl
theorem dX2_touches_15 : decode cX2_touches 15 = .ok (.iaload, 1) := dq46 bw_cX2_touches_0 15 rfl rfl
theorem dX2_touches_16 : decode cX2_touches 16 = .ok (.iload_n 2, 1) := dq28 bw_cX2_touches_0 16 rfl rfl
theorem dX2_touches_17 : decode cX2_touches 17 = .ok (.if_icmp .ne 7, 3) := dq160 bw_cX2_touches_0 17 rfl rfl rfl
theorem dX2_touches_20 : decode cX2_touches 20 = .ok (.iconst 1, 1) := dq4 bw_cX2_touches_0 20 rfl rfl
theorem dX2_touches_21 : decode cX2_touches 21 = .ok (.goto 4, 3) := dq167 bw_cX2_touches_0 21 rfl rfl rfl
theorem bw_cX2_touches_1 : dq_w cX2_touches 24 [3, 172] = true := by decide +kernel
theorem dX2_touches_24 : decode cX2_touches 24 = .ok (.iconst 0, 1) := dq3 bw_cX2_touches_1 0 rfl rfl
theorem dX2_touches_25 : decode cX2_touches 25 = .ok (.ireturn, 1) := dq172 bw_cX2_touches_1 1 rfl rfl
theorem bw_cX2_minutesFrom_0 : dq_w cX2_minutesFrom 0 [42, 180, 0, 31, 27, 46, 28, 160, 0, 12, 42, 180, 0, 37, 27, 46, 167, 0, 16, 42, 180, 0, 37, 27, 46, 42, 180] = true := by decide +kernel
theorem dX2_minutesFrom_0 : decode cX2_minutesFrom 0 = .ok (.aload_n 0, 1) := dq42 bw_cX2_minutesFrom_0 0 rfl rfl
theorem dX2_minutesFrom_1 : decode cX2_minutesFrom 1 = .ok (.getfield 31, 3) := dq180 bw_cX2_minutesFrom_0 1 rfl rfl rfl
theorem dX2_minutesFrom_4 : decode cX2_minutesFrom 4 = .ok (.iload_n 1, 1) := dq27 bw_cX2_minutesFrom_0 4 rfl rfl
theorem dX2_minutesFrom_5 : decode cX2_minutesFrom 5 = .ok (.iaload, 1) := dq46 bw_cX2_minutesFrom_0 5 rfl rfl
theorem dX2_minutesFrom_6 : decode cX2_minutesFrom 6 = .ok (.iload_n 2, 1) := dq28 bw_cX2_minutesFrom_0 6 rfl rfl
theorem dX2_minutesFrom_7 : decode cX2_minutesFrom 7 = .ok (.if_icmp .ne 12, 3) := dq160 bw_cX2_minutesFrom_0 7 rfl rfl rfl
theorem dX2_minutesFrom_10 : decode cX2_minutesFrom 10 = .ok (.aload_n 0, 1) := dq42 bw_cX2_minutesFrom_0 10 rfl rfl
theorem dX2_minutesFrom_11 : decode cX2_minutesFrom 11 = .ok (.getfield 37, 3) := dq180 bw_cX2_minutesFrom_0 11 rfl rfl rfl
theorem dX2_minutesFrom_14 : decode cX2_minutesFrom 14 = .ok (.iload_n 1, 1) := dq27 bw_cX2_minutesFrom_0 14 rfl rfl
theorem dX2_minutesFrom_15 : decode cX2_minutesFrom 15 = .ok (.iaload, 1) := dq46 bw_cX2_minutesFrom_0 15 rfl rfl
theorem dX2_minutesFrom_16 : decode cX2_minutesFrom 16 = .ok (.goto 16, 3) := dq167 bw_cX2_minutesFrom_0 16 rfl rfl rfl
theorem dX2_minutesFrom_19 : decode cX2_minutesFrom 19 = .ok (.aload_n 0, 1) := dq42 bw_cX2_minutesFrom_0 19 rfl rfl
theorem dX2_minutesFrom_20 : decode cX2_minutesFrom 20 = .ok (.getfield 37, 3) := dq180 bw_cX2_minutesFrom_0 20 rfl rfl rfl
theorem dX2_minutesFrom_23 : decode cX2_minutesFrom 23 = .ok (.iload_n 1, 1) := dq27 bw_cX2_minutesFrom_0 23 rfl rfl
theorem bw_cX2_minutesFrom_1 : dq_w cX2_minutesFrom 24 [46, 42, 180, 0, 49, 27, 46, 96, 172] = true := by decide +kernel
theorem dX2_minutesFrom_24 : decode cX2_minutesFrom 24 = .ok (.iaload, 1) := dq46 bw_cX2_minutesFrom_1 0 rfl rfl
theorem dX2_minutesFrom_25 : decode cX2_minutesFrom 25 = .ok (.aload_n 0, 1) := dq42 bw_cX2_minutesFrom_1 1 rfl rfl
theorem dX2_minutesFrom_26 : decode cX2_minutesFrom 26 = .ok (.getfield 49, 3) := dq180 bw_cX2_minutesFrom_1 2 rfl rfl rfl
theorem dX2_minutesFrom_29 : decode cX2_minutesFrom 29 = .ok (.iload_n 1, 1) := dq27 bw_cX2_minutesFrom_1 5 rfl rfl
theorem dX2_minutesFrom_30 : decode cX2_minutesFrom 30 = .ok (.iaload, 1) := dq46 bw_cX2_minutesFrom_1 6 rfl rfl
theorem dX2_minutesFrom_31 : decode cX2_minutesFrom 31 = .ok (.iadd, 1) := dq96 bw_cX2_minutesFrom_1 7 rfl rfl
theorem dX2_minutesFrom_32 : decode cX2_minutesFrom 32 = .ok (.ireturn, 1) := dq172 bw_cX2_minutesFrom_1 8 rfl rfl
theorem bw_cX6_isLight_0 : dq_w cX6_isLight 0 [42, 180, 0, 15, 16, 60, 112, 16, 40, 162, 0, 7, 4, 167, 0, 4, 3, 172] = true := by decide +kernel
theorem dX6_isLight_0 : decode cX6_isLight 0 = .ok (.aload_n 0, 1) := dq42 bw_cX6_isLight_0 0 rfl rfl
theorem dX6_isLight_1 : decode cX6_isLight 1 = .ok (.getfield 15, 3) := dq180 bw_cX6_isLight_0 1 rfl rfl rfl
theorem dX6_isLight_4 : decode cX6_isLight 4 = .ok (.bipush 60, 2) := dq16 bw_cX6_isLight_0 4 rfl rfl rfl
theorem dX6_isLight_6 : decode cX6_isLight 6 = .ok (.irem, 1) := dq112 bw_cX6_isLight_0 6 rfl rfl
theorem dX6_isLight_7 : decode cX6_isLight 7 = .ok (.bipush 40, 2) := dq16 bw_cX6_isLight_0 7 rfl rfl rfl
theorem dX6_isLight_9 : decode cX6_isLight 9 = .ok (.if_icmp .ge 7, 3) := dq162 bw_cX6_isLight_0 9 rfl rfl rfl
theorem dX6_isLight_12 : decode cX6_isLight 12 = .ok (.iconst 1, 1) := dq4 bw_cX6_isLight_0 12 rfl rfl
theorem dX6_isLight_13 : decode cX6_isLight 13 = .ok (.goto 4, 3) := dq167 bw_cX6_isLight_0 13 rfl rfl rfl
theorem dX6_isLight_16 : decode cX6_isLight 16 = .ok (.iconst 0, 1) := dq3 bw_cX6_isLight_0 16 rfl rfl
theorem dX6_isLight_17 : decode cX6_isLight 17 = .ok (.ireturn, 1) := dq172 bw_cX6_isLight_0 17 rfl rfl
theorem bw_cX6_whyNot_0 : dq_w cX6_whyNot 0 [43, 28, 42, 180, 0, 9, 182, 0, 31, 154, 0, 6, 16, 254, 172, 42, 43, 28, 182, 0, 35, 154, 0, 6, 16, 253, 172] = true := by decide +kernel
theorem dX6_whyNot_0 : decode cX6_whyNot 0 = .ok (.aload_n 1, 1) := dq43 bw_cX6_whyNot_0 0 rfl rfl
theorem dX6_whyNot_1 : decode cX6_whyNot 1 = .ok (.iload_n 2, 1) := dq28 bw_cX6_whyNot_0 1 rfl rfl
theorem dX6_whyNot_2 : decode cX6_whyNot 2 = .ok (.aload_n 0, 1) := dq42 bw_cX6_whyNot_0 2 rfl rfl
theorem dX6_whyNot_3 : decode cX6_whyNot 3 = .ok (.getfield 9, 3) := dq180 bw_cX6_whyNot_0 3 rfl rfl rfl
theorem dX6_whyNot_6 : decode cX6_whyNot 6 = .ok (.invokevirtual 31, 3) := dq182 bw_cX6_whyNot_0 6 rfl rfl rfl
theorem dX6_whyNot_9 : decode cX6_whyNot 9 = .ok (.ifCond .ne 6, 3) := dq154 bw_cX6_whyNot_0 9 rfl rfl rfl
theorem dX6_whyNot_12 : decode cX6_whyNot 12 = .ok (.bipush (-2), 2) := dq16 bw_cX6_whyNot_0 12 rfl rfl rfl
theorem dX6_whyNot_14 : decode cX6_whyNot 14 = .ok (.ireturn, 1) := dq172 bw_cX6_whyNot_0 14 rfl rfl
theorem dX6_whyNot_15 : decode cX6_whyNot 15 = .ok (.aload_n 0, 1) := dq42 bw_cX6_whyNot_0 15 rfl rfl
theorem dX6_whyNot_16 : decode cX6_whyNot 16 = .ok (.aload_n 1, 1) := dq43 bw_cX6_whyNot_0 16 rfl rfl
theorem dX6_whyNot_17 : decode cX6_whyNot 17 = .ok (.iload_n 2, 1) := dq28 bw_cX6_whyNot_0 17 rfl rfl
theorem dX6_whyNot_18 : decode cX6_whyNot 18 = .ok (.invokevirtual 35, 3) := dq182 bw_cX6_whyNot_0 18 rfl rfl rfl
theorem dX6_whyNot_21 : decode cX6_whyNot 21 = .ok (.ifCond .ne 6, 3) := dq154 bw_cX6_whyNot_0 21 rfl rfl rfl
theorem bw_cX6_whyNot_1 : dq_w cX6_whyNot 24 [16, 253, 172, 43, 180, 0, 39, 28, 51, 153, 0, 13, 42, 182, 0, 43, 154, 0, 6, 16, 252, 172, 42, 180, 0, 15, 43] = true := by decide +kernel
theorem dX6_whyNot_24 : decode cX6_whyNot 24 = .ok (.bipush (-3), 2) := dq16 bw_cX6_whyNot_1 0 rfl rfl rfl
theorem dX6_whyNot_26 : decode cX6_whyNot 26 = .ok (.ireturn, 1) := dq172 bw_cX6_whyNot_1 2 rfl rfl
theorem dX6_whyNot_27 : decode cX6_whyNot 27 = .ok (.aload_n 1, 1) := dq43 bw_cX6_whyNot_1 3 rfl rfl
theorem dX6_whyNot_28 : decode cX6_whyNot 28 = .ok (.getfield 39, 3) := dq180 bw_cX6_whyNot_1 4 rfl rfl rfl
theorem dX6_whyNot_31 : decode cX6_whyNot 31 = .ok (.iload_n 2, 1) := dq28 bw_cX6_whyNot_1 7 rfl rfl
theorem dX6_whyNot_32 : decode cX6_whyNot 32 = .ok (.baload, 1) := dq51 bw_cX6_whyNot_1 8 rfl rfl
theorem dX6_whyNot_33 : decode cX6_whyNot 33 = .ok (.ifCond .eq 13, 3) := dq153 bw_cX6_whyNot_1 9 rfl rfl rfl
theorem dX6_whyNot_36 : decode cX6_whyNot 36 = .ok (.aload_n 0, 1) := dq42 bw_cX6_whyNot_1 12 rfl rfl
theorem dX6_whyNot_37 : decode cX6_whyNot 37 = .ok (.invokevirtual 43, 3) := dq182 bw_cX6_whyNot_1 13 rfl rfl rfl
theorem dX6_whyNot_40 : decode cX6_whyNot 40 = .ok (.ifCond .ne 6, 3) := dq154 bw_cX6_whyNot_1 16 rfl rfl rfl
theorem dX6_whyNot_43 : decode cX6_whyNot 43 = .ok (.bipush (-4), 2) := dq16 bw_cX6_whyNot_1 19 rfl rfl rfl
theorem dX6_whyNot_45 : decode cX6_whyNot 45 = .ok (.ireturn, 1) := dq172 bw_cX6_whyNot_1 21 rfl rfl
theorem dX6_whyNot_46 : decode cX6_whyNot 46 = .ok (.aload_n 0, 1) := dq42 bw_cX6_whyNot_1 22 rfl rfl
theorem dX6_whyNot_47 : decode cX6_whyNot 47 = .ok (.getfield 15, 3) := dq180 bw_cX6_whyNot_1 23 rfl rfl rfl
theorem bw_cX6_whyNot_2 : dq_w cX6_whyNot 48 [0, 15, 43, 28, 42, 180, 0, 9, 182, 0, 47, 96, 43, 180, 0, 51, 164, 0, 8, 16, 251, 167, 0, 4, 3, 172] = true := by decide +kernel
theorem dX6_whyNot_50 : decode cX6_whyNot 50 = .ok (.aload_n 1, 1) := dq43 bw_cX6_whyNot_2 2 rfl rfl
theorem dX6_whyNot_51 : decode cX6_whyNot 51 = .ok (.iload_n 2, 1) := dq28 bw_cX6_whyNot_2 3 rfl rfl
theorem dX6_whyNot_52 : decode cX6_whyNot 52 = .ok (.aload_n 0, 1) := dq42 bw_cX6_whyNot_2 4 rfl rfl
theorem dX6_whyNot_53 : decode cX6_whyNot 53 = .ok (.getfield 9, 3) := dq180 bw_cX6_whyNot_2 5 rfl rfl rfl
theorem dX6_whyNot_56 : decode cX6_whyNot 56 = .ok (.invokevirtual 47, 3) := dq182 bw_cX6_whyNot_2 8 rfl rfl rfl
theorem dX6_whyNot_59 : decode cX6_whyNot 59 = .ok (.iadd, 1) := dq96 bw_cX6_whyNot_2 11 rfl rfl
theorem dX6_whyNot_60 : decode cX6_whyNot 60 = .ok (.aload_n 1, 1) := dq43 bw_cX6_whyNot_2 12 rfl rfl
theorem dX6_whyNot_61 : decode cX6_whyNot 61 = .ok (.getfield 51, 3) := dq180 bw_cX6_whyNot_2 13 rfl rfl rfl
theorem dX6_whyNot_64 : decode cX6_whyNot 64 = .ok (.if_icmp .le 8, 3) := dq164 bw_cX6_whyNot_2 16 rfl rfl rfl
theorem dX6_whyNot_67 : decode cX6_whyNot 67 = .ok (.bipush (-5), 2) := dq16 bw_cX6_whyNot_2 19 rfl rfl rfl
theorem dX6_whyNot_69 : decode cX6_whyNot 69 = .ok (.goto 4, 3) := dq167 bw_cX6_whyNot_2 21 rfl rfl rfl
theorem bw_cX6_whyNot_3 : dq_w cX6_whyNot 72 [3, 172] = true := by decide +kernel
theorem dX6_whyNot_72 : decode cX6_whyNot 72 = .ok (.iconst 0, 1) := dq3 bw_cX6_whyNot_3 0 rfl rfl
theorem dX6_whyNot_73 : decode cX6_whyNot 73 = .ok (.ireturn, 1) := dq172 bw_cX6_whyNot_3 1 rfl rfl
theorem bw_cX7_remember_0 : dq_w cX7_remember 0 [42, 180, 0, 18, 42, 180, 0, 15, 28, 79, 42, 180, 0, 22, 42, 180, 0, 15, 43, 180, 0, 31, 79, 42, 180, 0, 25] = true := by decide +kernel
theorem dX7_remember_0 : decode cX7_remember 0 = .ok (.aload_n 0, 1) := dq42 bw_cX7_remember_0 0 rfl rfl
theorem dX7_remember_1 : decode cX7_remember 1 = .ok (.getfield 18, 3) := dq180 bw_cX7_remember_0 1 rfl rfl rfl
theorem dX7_remember_4 : decode cX7_remember 4 = .ok (.aload_n 0, 1) := dq42 bw_cX7_remember_0 4 rfl rfl
theorem dX7_remember_5 : decode cX7_remember 5 = .ok (.getfield 15, 3) := dq180 bw_cX7_remember_0 5 rfl rfl rfl
theorem dX7_remember_8 : decode cX7_remember 8 = .ok (.iload_n 2, 1) := dq28 bw_cX7_remember_0 8 rfl rfl
theorem dX7_remember_9 : decode cX7_remember 9 = .ok (.iastore, 1) := dq79 bw_cX7_remember_0 9 rfl rfl
theorem dX7_remember_10 : decode cX7_remember 10 = .ok (.aload_n 0, 1) := dq42 bw_cX7_remember_0 10 rfl rfl
theorem dX7_remember_11 : decode cX7_remember 11 = .ok (.getfield 22, 3) := dq180 bw_cX7_remember_0 11 rfl rfl rfl
theorem dX7_remember_14 : decode cX7_remember 14 = .ok (.aload_n 0, 1) := dq42 bw_cX7_remember_0 14 rfl rfl
theorem dX7_remember_15 : decode cX7_remember 15 = .ok (.getfield 15, 3) := dq180 bw_cX7_remember_0 15 rfl rfl rfl
theorem dX7_remember_18 : decode cX7_remember 18 = .ok (.aload_n 1, 1) := dq43 bw_cX7_remember_0 18 rfl rfl
theorem dX7_remember_19 : decode cX7_remember 19 = .ok (.getfield 31, 3) := dq180 bw_cX7_remember_0 19 rfl rfl rfl
theorem dX7_remember_22 : decode cX7_remember 22 = .ok (.iastore, 1) := dq79 bw_cX7_remember_0 22 rfl rfl
theorem dX7_remember_23 : decode cX7_remember 23 = .ok (.aload_n 0, 1) := dq42 bw_cX7_remember_0 23 rfl rfl
theorem bw_cX7_remember_1 : dq_w cX7_remember 24 [180, 0, 25, 42, 180, 0, 15, 43, 180, 0, 35, 79, 42, 180, 0, 28, 42, 180, 0, 15, 43, 180, 0, 37, 28, 46, 79] = true := by decide +kernel
theorem dX7_remember_24 : decode cX7_remember 24 = .ok (.getfield 25, 3) := dq180 bw_cX7_remember_1 0 rfl rfl rfl
theorem dX7_remember_27 : decode cX7_remember 27 = .ok (.aload_n 0, 1) := dq42 bw_cX7_remember_1 3 rfl rfl
theorem dX7_remember_28 : decode cX7_remember 28 = .ok (.getfield 15, 3) := dq180 bw_cX7_remember_1 4 rfl rfl rfl
theorem dX7_remember_31 : decode cX7_remember 31 = .ok (.aload_n 1, 1) := dq43 bw_cX7_remember_1 7 rfl rfl
theorem dX7_remember_32 : decode cX7_remember 32 = .ok (.getfield 35, 3) := dq180 bw_cX7_remember_1 8 rfl rfl rfl
theorem dX7_remember_35 : decode cX7_remember 35 = .ok (.iastore, 1) := dq79 bw_cX7_remember_1 11 rfl rfl
theorem dX7_remember_36 : decode cX7_remember 36 = .ok (.aload_n 0, 1) := dq42 bw_cX7_remember_1 12 rfl rfl
theorem dX7_remember_37 : decode cX7_remember 37 = .ok (.getfield 28, 3) := dq180 bw_cX7_remember_1 13 rfl rfl rfl
theorem dX7_remember_40 : decode cX7_remember 40 = .ok (.aload_n 0, 1) := dq42 bw_cX7_remember_1 16 rfl rfl
theorem dX7_remember_41 : decode cX7_remember 41 = .ok (.getfield 15, 3) := dq180 bw_cX7_remember_1 17 rfl rfl rfl
theorem dX7_remember_44 : decode cX7_remember 44 = .ok (.aload_n 1, 1) := dq43 bw_cX7_remember_1 20 rfl rfl
theorem dX7_remember_45 : decode cX7_remember 45 = .ok (.getfield 37, 3) := dq180 bw_cX7_remember_1 21 rfl rfl rfl
theorem bw_cX7_remember_2 : dq_w cX7_remember 48 [28, 46, 79, 42, 42, 180, 0, 15, 4, 96, 16, 30, 112, 181, 0, 15, 42, 42, 180, 0, 9, 4, 96, 16, 30, 184, 0] = true := by decide +kernel
theorem dX7_remember_48 : decode cX7_remember 48 = .ok (.iload_n 2, 1) := dq28 bw_cX7_remember_2 0 rfl rfl
theorem dX7_remember_49 : decode cX7_remember 49 = .ok (.iaload, 1) := dq46 bw_cX7_remember_2 1 rfl rfl
theorem dX7_remember_50 : decode cX7_remember 50 = .ok (.iastore, 1) := dq79 bw_cX7_remember_2 2 rfl rfl
theorem dX7_remember_51 : decode cX7_remember 51 = .ok (.aload_n 0, 1) := dq42 bw_cX7_remember_2 3 rfl rfl
theorem dX7_remember_52 : decode cX7_remember 52 = .ok (.aload_n 0, 1) := dq42 bw_cX7_remember_2 4 rfl rfl
theorem dX7_remember_53 : decode cX7_remember 53 = .ok (.getfield 15, 3) := dq180 bw_cX7_remember_2 5 rfl rfl rfl
theorem dX7_remember_56 : decode cX7_remember 56 = .ok (.iconst 1, 1) := dq4 bw_cX7_remember_2 8 rfl rfl
theorem dX7_remember_57 : decode cX7_remember 57 = .ok (.iadd, 1) := dq96 bw_cX7_remember_2 9 rfl rfl
theorem dX7_remember_58 : decode cX7_remember 58 = .ok (.bipush 30, 2) := dq16 bw_cX7_remember_2 10 rfl rfl rfl
theorem dX7_remember_60 : decode cX7_remember 60 = .ok (.irem, 1) := dq112 bw_cX7_remember_2 12 rfl rfl
theorem dX7_remember_61 : decode cX7_remember 61 = .ok (.putfield 15, 3) := dq181 bw_cX7_remember_2 13 rfl rfl rfl
theorem dX7_remember_64 : decode cX7_remember 64 = .ok (.aload_n 0, 1) := dq42 bw_cX7_remember_2 16 rfl rfl
theorem dX7_remember_65 : decode cX7_remember 65 = .ok (.aload_n 0, 1) := dq42 bw_cX7_remember_2 17 rfl rfl
theorem dX7_remember_66 : decode cX7_remember 66 = .ok (.getfield 9, 3) := dq180 bw_cX7_remember_2 18 rfl rfl rfl
theorem dX7_remember_69 : decode cX7_remember 69 = .ok (.iconst 1, 1) := dq4 bw_cX7_remember_2 21 rfl rfl
theorem dX7_remember_70 : decode cX7_remember 70 = .ok (.iadd, 1) := dq96 bw_cX7_remember_2 22 rfl rfl
theorem dX7_remember_71 : decode cX7_remember 71 = .ok (.bipush 30, 2) := dq16 bw_cX7_remember_2 23 rfl rfl rfl
theorem bw_cX7_remember_3 : dq_w cX7_remember 72 [30, 184, 0, 38, 181, 0, 9, 177] = true := by decide +kernel
theorem dX7_remember_73 : decode cX7_remember 73 = .ok (.invokestatic 38, 3) := dq184 bw_cX7_remember_3 1 rfl rfl rfl
theorem dX7_remember_76 : decode cX7_remember 76 = .ok (.putfield 9, 3) := dq181 bw_cX7_remember_3 4 rfl rfl rfl
theorem dX7_remember_79 : decode cX7_remember 79 = .ok (.return_, 1) := dq177 bw_cX7_remember_3 7 rfl rfl
theorem bw_cX2_otherEnd_0 : dq_w cX2_otherEnd 0 [42, 180, 0, 31, 27, 46, 28, 160, 0, 12, 42, 180, 0, 34, 27, 46, 167, 0, 9, 42, 180, 0, 31, 27, 46, 172] = true := by decide +kernel
theorem dX2_otherEnd_0 : decode cX2_otherEnd 0 = .ok (.aload_n 0, 1) := dq42 bw_cX2_otherEnd_0 0 rfl rfl
theorem dX2_otherEnd_1 : decode cX2_otherEnd 1 = .ok (.getfield 31, 3) := dq180 bw_cX2_otherEnd_0 1 rfl rfl rfl
theorem dX2_otherEnd_4 : decode cX2_otherEnd 4 = .ok (.iload_n 1, 1) := dq27 bw_cX2_otherEnd_0 4 rfl rfl
theorem dX2_otherEnd_5 : decode cX2_otherEnd 5 = .ok (.iaload, 1) := dq46 bw_cX2_otherEnd_0 5 rfl rfl
theorem dX2_otherEnd_6 : decode cX2_otherEnd 6 = .ok (.iload_n 2, 1) := dq28 bw_cX2_otherEnd_0 6 rfl rfl
theorem dX2_otherEnd_7 : decode cX2_otherEnd 7 = .ok (.if_icmp .ne 12, 3) := dq160 bw_cX2_otherEnd_0 7 rfl rfl rfl
theorem dX2_otherEnd_10 : decode cX2_otherEnd 10 = .ok (.aload_n 0, 1) := dq42 bw_cX2_otherEnd_0 10 rfl rfl
theorem dX2_otherEnd_11 : decode cX2_otherEnd 11 = .ok (.getfield 34, 3) := dq180 bw_cX2_otherEnd_0 11 rfl rfl rfl
theorem dX2_otherEnd_14 : decode cX2_otherEnd 14 = .ok (.iload_n 1, 1) := dq27 bw_cX2_otherEnd_0 14 rfl rfl
theorem dX2_otherEnd_15 : decode cX2_otherEnd 15 = .ok (.iaload, 1) := dq46 bw_cX2_otherEnd_0 15 rfl rfl
theorem dX2_otherEnd_16 : decode cX2_otherEnd 16 = .ok (.goto 9, 3) := dq167 bw_cX2_otherEnd_0 16 rfl rfl rfl
theorem dX2_otherEnd_19 : decode cX2_otherEnd 19 = .ok (.aload_n 0, 1) := dq42 bw_cX2_otherEnd_0 19 rfl rfl
theorem dX2_otherEnd_20 : decode cX2_otherEnd 20 = .ok (.getfield 31, 3) := dq180 bw_cX2_otherEnd_0 20 rfl rfl rfl
theorem dX2_otherEnd_23 : decode cX2_otherEnd 23 = .ok (.iload_n 1, 1) := dq27 bw_cX2_otherEnd_0 23 rfl rfl
theorem bw_cX2_otherEnd_1 : dq_w cX2_otherEnd 24 [46, 172] = true := by decide +kernel
theorem dX2_otherEnd_24 : decode cX2_otherEnd 24 = .ok (.iaload, 1) := dq46 bw_cX2_otherEnd_1 0 rfl rfl
theorem dX2_otherEnd_25 : decode cX2_otherEnd 25 = .ok (.ireturn, 1) := dq172 bw_cX2_otherEnd_1 1 rfl rfl
theorem bw_cX6_step_0 : dq_w cX6_step 0 [43, 28, 42, 180, 0, 9, 182, 0, 47, 62, 42, 180, 0, 18, 28, 42, 182, 0, 22, 79, 42, 89, 180, 0, 15, 29, 96] = true := by decide +kernel
theorem dX6_step_0 : decode cX6_step 0 = .ok (.aload_n 1, 1) := dq43 bw_cX6_step_0 0 rfl rfl
theorem dX6_step_1 : decode cX6_step 1 = .ok (.iload_n 2, 1) := dq28 bw_cX6_step_0 1 rfl rfl
theorem dX6_step_2 : decode cX6_step 2 = .ok (.aload_n 0, 1) := dq42 bw_cX6_step_0 2 rfl rfl
theorem dX6_step_3 : decode cX6_step 3 = .ok (.getfield 9, 3) := dq180 bw_cX6_step_0 3 rfl rfl rfl
theorem dX6_step_6 : decode cX6_step 6 = .ok (.invokevirtual 47, 3) := dq182 bw_cX6_step_0 6 rfl rfl rfl
theorem dX6_step_9 : decode cX6_step 9 = .ok (.istore_n 3, 1) := dq62 bw_cX6_step_0 9 rfl rfl
theorem dX6_step_10 : decode cX6_step 10 = .ok (.aload_n 0, 1) := dq42 bw_cX6_step_0 10 rfl rfl
theorem dX6_step_11 : decode cX6_step 11 = .ok (.getfield 18, 3) := dq180 bw_cX6_step_0 11 rfl rfl rfl
theorem dX6_step_14 : decode cX6_step 14 = .ok (.iload_n 2, 1) := dq28 bw_cX6_step_0 14 rfl rfl
theorem dX6_step_15 : decode cX6_step 15 = .ok (.aload_n 0, 1) := dq42 bw_cX6_step_0 15 rfl rfl
theorem dX6_step_16 : decode cX6_step 16 = .ok (.invokevirtual 22, 3) := dq182 bw_cX6_step_0 16 rfl rfl rfl
theorem dX6_step_19 : decode cX6_step 19 = .ok (.iastore, 1) := dq79 bw_cX6_step_0 19 rfl rfl
theorem dX6_step_20 : decode cX6_step 20 = .ok (.aload_n 0, 1) := dq42 bw_cX6_step_0 20 rfl rfl
theorem dX6_step_21 : decode cX6_step 21 = .ok (.dup, 1) := dq89 bw_cX6_step_0 21 rfl rfl
theorem dX6_step_22 : decode cX6_step 22 = .ok (.getfield 15, 3) := dq180 bw_cX6_step_0 22 rfl rfl rfl
theorem bw_cX6_step_1 : dq_w cX6_step 24 [15, 29, 96, 181, 0, 15, 42, 43, 28, 42, 180, 0, 9, 182, 0, 54, 181, 0, 9, 29, 172] = true := by decide +kernel
theorem dX6_step_25 : decode cX6_step 25 = .ok (.iload_n 3, 1) := dq29 bw_cX6_step_1 1 rfl rfl
theorem dX6_step_26 : decode cX6_step 26 = .ok (.iadd, 1) := dq96 bw_cX6_step_1 2 rfl rfl
theorem dX6_step_27 : decode cX6_step 27 = .ok (.putfield 15, 3) := dq181 bw_cX6_step_1 3 rfl rfl rfl
theorem dX6_step_30 : decode cX6_step 30 = .ok (.aload_n 0, 1) := dq42 bw_cX6_step_1 6 rfl rfl
theorem dX6_step_31 : decode cX6_step 31 = .ok (.aload_n 1, 1) := dq43 bw_cX6_step_1 7 rfl rfl
theorem dX6_step_32 : decode cX6_step 32 = .ok (.iload_n 2, 1) := dq28 bw_cX6_step_1 8 rfl rfl
theorem dX6_step_33 : decode cX6_step 33 = .ok (.aload_n 0, 1) := dq42 bw_cX6_step_1 9 rfl rfl
theorem dX6_step_34 : decode cX6_step 34 = .ok (.getfield 9, 3) := dq180 bw_cX6_step_1 10 rfl rfl rfl
theorem dX6_step_37 : decode cX6_step 37 = .ok (.invokevirtual 54, 3) := dq182 bw_cX6_step_1 13 rfl rfl rfl
theorem dX6_step_40 : decode cX6_step 40 = .ok (.putfield 9, 3) := dq181 bw_cX6_step_1 16 rfl rfl rfl
theorem dX6_step_43 : decode cX6_step 43 = .ok (.iload_n 3, 1) := dq29 bw_cX6_step_1 19 rfl rfl
theorem dX6_step_44 : decode cX6_step 44 = .ok (.ireturn, 1) := dq172 bw_cX6_step_1 20 rfl rfl
theorem bw_cX11_walk_0 : dq_w cX11_walk 0 [42, 180, 0, 19, 27, 182, 0, 105, 154, 0, 5, 2, 172, 42, 180, 0, 33, 42, 180, 0, 19, 27, 182, 0, 182, 61, 28] = true := by decide +kernel
theorem dX11_walk_0 : decode cX11_walk 0 = .ok (.aload_n 0, 1) := dq42 bw_cX11_walk_0 0 rfl rfl
theorem dX11_walk_1 : decode cX11_walk 1 = .ok (.getfield 19, 3) := dq180 bw_cX11_walk_0 1 rfl rfl rfl
theorem dX11_walk_4 : decode cX11_walk 4 = .ok (.iload_n 1, 1) := dq27 bw_cX11_walk_0 4 rfl rfl
theorem dX11_walk_5 : decode cX11_walk 5 = .ok (.invokevirtual 105, 3) := dq182 bw_cX11_walk_0 5 rfl rfl rfl
theorem dX11_walk_8 : decode cX11_walk 8 = .ok (.ifCond .ne 5, 3) := dq154 bw_cX11_walk_0 8 rfl rfl rfl
theorem dX11_walk_11 : decode cX11_walk 11 = .ok (.iconst (-1), 1) := dq2 bw_cX11_walk_0 11 rfl rfl
theorem dX11_walk_12 : decode cX11_walk 12 = .ok (.ireturn, 1) := dq172 bw_cX11_walk_0 12 rfl rfl
theorem dX11_walk_13 : decode cX11_walk 13 = .ok (.aload_n 0, 1) := dq42 bw_cX11_walk_0 13 rfl rfl
theorem dX11_walk_14 : decode cX11_walk 14 = .ok (.getfield 33, 3) := dq180 bw_cX11_walk_0 14 rfl rfl rfl
theorem dX11_walk_17 : decode cX11_walk 17 = .ok (.aload_n 0, 1) := dq42 bw_cX11_walk_0 17 rfl rfl
theorem dX11_walk_18 : decode cX11_walk 18 = .ok (.getfield 19, 3) := dq180 bw_cX11_walk_0 18 rfl rfl rfl
theorem dX11_walk_21 : decode cX11_walk 21 = .ok (.iload_n 1, 1) := dq27 bw_cX11_walk_0 21 rfl rfl
theorem dX11_walk_22 : decode cX11_walk 22 = .ok (.invokevirtual 182, 3) := dq182 bw_cX11_walk_0 22 rfl rfl rfl
theorem bw_cX11_walk_1 : dq_w cX11_walk 24 [182, 61, 28, 153, 0, 5, 28, 172, 42, 180, 0, 43, 42, 180, 0, 33, 27, 182, 0, 186, 42, 180, 0, 33, 42, 180, 0] = true := by decide +kernel
theorem dX11_walk_25 : decode cX11_walk 25 = .ok (.istore_n 2, 1) := dq61 bw_cX11_walk_1 1 rfl rfl
theorem dX11_walk_26 : decode cX11_walk 26 = .ok (.iload_n 2, 1) := dq28 bw_cX11_walk_1 2 rfl rfl
theorem dX11_walk_27 : decode cX11_walk 27 = .ok (.ifCond .eq 5, 3) := dq153 bw_cX11_walk_1 3 rfl rfl rfl
theorem dX11_walk_30 : decode cX11_walk 30 = .ok (.iload_n 2, 1) := dq28 bw_cX11_walk_1 6 rfl rfl
theorem dX11_walk_31 : decode cX11_walk 31 = .ok (.ireturn, 1) := dq172 bw_cX11_walk_1 7 rfl rfl
theorem dX11_walk_32 : decode cX11_walk 32 = .ok (.aload_n 0, 1) := dq42 bw_cX11_walk_1 8 rfl rfl
theorem dX11_walk_33 : decode cX11_walk 33 = .ok (.getfield 43, 3) := dq180 bw_cX11_walk_1 9 rfl rfl rfl
theorem dX11_walk_36 : decode cX11_walk 36 = .ok (.aload_n 0, 1) := dq42 bw_cX11_walk_1 12 rfl rfl
theorem dX11_walk_37 : decode cX11_walk 37 = .ok (.getfield 33, 3) := dq180 bw_cX11_walk_1 13 rfl rfl rfl
theorem dX11_walk_40 : decode cX11_walk 40 = .ok (.iload_n 1, 1) := dq27 bw_cX11_walk_1 16 rfl rfl
theorem dX11_walk_41 : decode cX11_walk 41 = .ok (.invokevirtual 186, 3) := dq182 bw_cX11_walk_1 17 rfl rfl rfl
theorem dX11_walk_44 : decode cX11_walk 44 = .ok (.aload_n 0, 1) := dq42 bw_cX11_walk_1 20 rfl rfl
theorem dX11_walk_45 : decode cX11_walk 45 = .ok (.getfield 33, 3) := dq180 bw_cX11_walk_1 21 rfl rfl rfl
theorem bw_cX11_walk_2 : dq_w cX11_walk 48 [42, 180, 0, 19, 27, 182, 0, 190, 172] = true := by decide +kernel
theorem dX11_walk_48 : decode cX11_walk 48 = .ok (.aload_n 0, 1) := dq42 bw_cX11_walk_2 0 rfl rfl
theorem dX11_walk_49 : decode cX11_walk 49 = .ok (.getfield 19, 3) := dq180 bw_cX11_walk_2 1 rfl rfl rfl
theorem dX11_walk_52 : decode cX11_walk 52 = .ok (.iload_n 1, 1) := dq27 bw_cX11_walk_2 4 rfl rfl
theorem dX11_walk_53 : decode cX11_walk 53 = .ok (.invokevirtual 190, 3) := dq182 bw_cX11_walk_2 5 rfl rfl rfl
theorem dX11_walk_56 : decode cX11_walk 56 = .ok (.ireturn, 1) := dq172 bw_cX11_walk_2 8 rfl rfl
theorem bw_cX11_rest_0 : dq_w cX11_rest 0 [27, 155, 0, 10, 27, 17, 39, 15, 164, 0, 5, 2, 172, 42, 180, 0, 33, 180, 0, 193, 27, 96, 42, 180, 0, 19, 180] = true := by decide +kernel
theorem dX11_rest_0 : decode cX11_rest 0 = .ok (.iload_n 1, 1) := dq27 bw_cX11_rest_0 0 rfl rfl
theorem dX11_rest_1 : decode cX11_rest 1 = .ok (.ifCond .lt 10, 3) := dq155 bw_cX11_rest_0 1 rfl rfl rfl
theorem dX11_rest_4 : decode cX11_rest 4 = .ok (.iload_n 1, 1) := dq27 bw_cX11_rest_0 4 rfl rfl
theorem dX11_rest_5 : decode cX11_rest 5 = .ok (.sipush 9999, 3) := dq17 bw_cX11_rest_0 5 rfl rfl rfl
theorem dX11_rest_8 : decode cX11_rest 8 = .ok (.if_icmp .le 5, 3) := dq164 bw_cX11_rest_0 8 rfl rfl rfl
theorem dX11_rest_11 : decode cX11_rest 11 = .ok (.iconst (-1), 1) := dq2 bw_cX11_rest_0 11 rfl rfl
theorem dX11_rest_12 : decode cX11_rest 12 = .ok (.ireturn, 1) := dq172 bw_cX11_rest_0 12 rfl rfl
theorem dX11_rest_13 : decode cX11_rest 13 = .ok (.aload_n 0, 1) := dq42 bw_cX11_rest_0 13 rfl rfl
theorem dX11_rest_14 : decode cX11_rest 14 = .ok (.getfield 33, 3) := dq180 bw_cX11_rest_0 14 rfl rfl rfl
theorem dX11_rest_17 : decode cX11_rest 17 = .ok (.getfield 193, 3) := dq180 bw_cX11_rest_0 17 rfl rfl rfl
theorem dX11_rest_20 : decode cX11_rest 20 = .ok (.iload_n 1, 1) := dq27 bw_cX11_rest_0 20 rfl rfl
theorem dX11_rest_21 : decode cX11_rest 21 = .ok (.iadd, 1) := dq96 bw_cX11_rest_0 21 rfl rfl
theorem dX11_rest_22 : decode cX11_rest 22 = .ok (.aload_n 0, 1) := dq42 bw_cX11_rest_0 22 rfl rfl
theorem dX11_rest_23 : decode cX11_rest 23 = .ok (.getfield 19, 3) := dq180 bw_cX11_rest_0 23 rfl rfl rfl
theorem bw_cX11_rest_1 : dq_w cX11_rest 24 [0, 19, 180, 0, 165, 164, 0, 6, 16, 251, 172, 42, 180, 0, 33, 89, 180, 0, 193, 27, 96, 181, 0, 193, 42, 180, 0] = true := by decide +kernel
theorem dX11_rest_26 : decode cX11_rest 26 = .ok (.getfield 165, 3) := dq180 bw_cX11_rest_1 2 rfl rfl rfl
theorem dX11_rest_29 : decode cX11_rest 29 = .ok (.if_icmp .le 6, 3) := dq164 bw_cX11_rest_1 5 rfl rfl rfl
theorem dX11_rest_32 : decode cX11_rest 32 = .ok (.bipush (-5), 2) := dq16 bw_cX11_rest_1 8 rfl rfl rfl
theorem dX11_rest_34 : decode cX11_rest 34 = .ok (.ireturn, 1) := dq172 bw_cX11_rest_1 10 rfl rfl
theorem dX11_rest_35 : decode cX11_rest 35 = .ok (.aload_n 0, 1) := dq42 bw_cX11_rest_1 11 rfl rfl
theorem dX11_rest_36 : decode cX11_rest 36 = .ok (.getfield 33, 3) := dq180 bw_cX11_rest_1 12 rfl rfl rfl
theorem dX11_rest_39 : decode cX11_rest 39 = .ok (.dup, 1) := dq89 bw_cX11_rest_1 15 rfl rfl
theorem dX11_rest_40 : decode cX11_rest 40 = .ok (.getfield 193, 3) := dq180 bw_cX11_rest_1 16 rfl rfl rfl
theorem dX11_rest_43 : decode cX11_rest 43 = .ok (.iload_n 1, 1) := dq27 bw_cX11_rest_1 19 rfl rfl
theorem dX11_rest_44 : decode cX11_rest 44 = .ok (.iadd, 1) := dq96 bw_cX11_rest_1 20 rfl rfl
theorem dX11_rest_45 : decode cX11_rest 45 = .ok (.putfield 193, 3) := dq181 bw_cX11_rest_1 21 rfl rfl rfl
theorem bw_cX11_rest_2 : dq_w cX11_rest 48 [42, 180, 0, 43, 3, 181, 0, 102, 42, 180, 0, 33, 180, 0, 193, 172] = true := by decide +kernel
theorem dX11_rest_48 : decode cX11_rest 48 = .ok (.aload_n 0, 1) := dq42 bw_cX11_rest_2 0 rfl rfl
theorem dX11_rest_49 : decode cX11_rest 49 = .ok (.getfield 43, 3) := dq180 bw_cX11_rest_2 1 rfl rfl rfl
theorem dX11_rest_52 : decode cX11_rest 52 = .ok (.iconst 0, 1) := dq3 bw_cX11_rest_2 4 rfl rfl
theorem dX11_rest_53 : decode cX11_rest 53 = .ok (.putfield 102, 3) := dq181 bw_cX11_rest_2 5 rfl rfl rfl
theorem dX11_rest_56 : decode cX11_rest 56 = .ok (.aload_n 0, 1) := dq42 bw_cX11_rest_2 8 rfl rfl
theorem dX11_rest_57 : decode cX11_rest 57 = .ok (.getfield 33, 3) := dq180 bw_cX11_rest_2 9 rfl rfl rfl
theorem dX11_rest_60 : decode cX11_rest 60 = .ok (.getfield 193, 3) := dq180 bw_cX11_rest_2 12 rfl rfl rfl
theorem dX11_rest_63 : decode cX11_rest 63 = .ok (.ireturn, 1) := dq172 bw_cX11_rest_2 15 rfl rfl
theorem bw_cX7_takeBack_0 : dq_w cX7_takeBack 0 [42, 180, 0, 9, 154, 0, 5, 3, 172, 42, 42, 180, 0, 15, 16, 30, 96, 4, 100, 16, 30, 112, 181, 0, 15, 42, 89] = true := by decide +kernel
theorem dX7_takeBack_0 : decode cX7_takeBack 0 = .ok (.aload_n 0, 1) := dq42 bw_cX7_takeBack_0 0 rfl rfl
theorem dX7_takeBack_1 : decode cX7_takeBack 1 = .ok (.getfield 9, 3) := dq180 bw_cX7_takeBack_0 1 rfl rfl rfl
theorem dX7_takeBack_4 : decode cX7_takeBack 4 = .ok (.ifCond .ne 5, 3) := dq154 bw_cX7_takeBack_0 4 rfl rfl rfl
theorem dX7_takeBack_7 : decode cX7_takeBack 7 = .ok (.iconst 0, 1) := dq3 bw_cX7_takeBack_0 7 rfl rfl
theorem dX7_takeBack_8 : decode cX7_takeBack 8 = .ok (.ireturn, 1) := dq172 bw_cX7_takeBack_0 8 rfl rfl
theorem dX7_takeBack_9 : decode cX7_takeBack 9 = .ok (.aload_n 0, 1) := dq42 bw_cX7_takeBack_0 9 rfl rfl
theorem dX7_takeBack_10 : decode cX7_takeBack 10 = .ok (.aload_n 0, 1) := dq42 bw_cX7_takeBack_0 10 rfl rfl
theorem dX7_takeBack_11 : decode cX7_takeBack 11 = .ok (.getfield 15, 3) := dq180 bw_cX7_takeBack_0 11 rfl rfl rfl
theorem dX7_takeBack_14 : decode cX7_takeBack 14 = .ok (.bipush 30, 2) := dq16 bw_cX7_takeBack_0 14 rfl rfl rfl
theorem dX7_takeBack_16 : decode cX7_takeBack 16 = .ok (.iadd, 1) := dq96 bw_cX7_takeBack_0 16 rfl rfl
theorem dX7_takeBack_17 : decode cX7_takeBack 17 = .ok (.iconst 1, 1) := dq4 bw_cX7_takeBack_0 17 rfl rfl
theorem dX7_takeBack_18 : decode cX7_takeBack 18 = .ok (.isub, 1) := dq100 bw_cX7_takeBack_0 18 rfl rfl
theorem dX7_takeBack_19 : decode cX7_takeBack 19 = .ok (.bipush 30, 2) := dq16 bw_cX7_takeBack_0 19 rfl rfl rfl
theorem dX7_takeBack_21 : decode cX7_takeBack 21 = .ok (.irem, 1) := dq112 bw_cX7_takeBack_0 21 rfl rfl
theorem dX7_takeBack_22 : decode cX7_takeBack 22 = .ok (.putfield 15, 3) := dq181 bw_cX7_takeBack_0 22 rfl rfl rfl
theorem bw_cX7_takeBack_1 : dq_w cX7_takeBack 24 [15, 42, 89, 180, 0, 9, 4, 100, 181, 0, 9, 43, 42, 180, 0, 22, 42, 180, 0, 15, 46, 181, 0, 31, 43, 42, 180] = true := by decide +kernel
theorem dX7_takeBack_25 : decode cX7_takeBack 25 = .ok (.aload_n 0, 1) := dq42 bw_cX7_takeBack_1 1 rfl rfl
theorem dX7_takeBack_26 : decode cX7_takeBack 26 = .ok (.dup, 1) := dq89 bw_cX7_takeBack_1 2 rfl rfl
theorem dX7_takeBack_27 : decode cX7_takeBack 27 = .ok (.getfield 9, 3) := dq180 bw_cX7_takeBack_1 3 rfl rfl rfl
theorem dX7_takeBack_30 : decode cX7_takeBack 30 = .ok (.iconst 1, 1) := dq4 bw_cX7_takeBack_1 6 rfl rfl
theorem dX7_takeBack_31 : decode cX7_takeBack 31 = .ok (.isub, 1) := dq100 bw_cX7_takeBack_1 7 rfl rfl
theorem dX7_takeBack_32 : decode cX7_takeBack 32 = .ok (.putfield 9, 3) := dq181 bw_cX7_takeBack_1 8 rfl rfl rfl
theorem dX7_takeBack_35 : decode cX7_takeBack 35 = .ok (.aload_n 1, 1) := dq43 bw_cX7_takeBack_1 11 rfl rfl
theorem dX7_takeBack_36 : decode cX7_takeBack 36 = .ok (.aload_n 0, 1) := dq42 bw_cX7_takeBack_1 12 rfl rfl
theorem dX7_takeBack_37 : decode cX7_takeBack 37 = .ok (.getfield 22, 3) := dq180 bw_cX7_takeBack_1 13 rfl rfl rfl
theorem dX7_takeBack_40 : decode cX7_takeBack 40 = .ok (.aload_n 0, 1) := dq42 bw_cX7_takeBack_1 16 rfl rfl
theorem dX7_takeBack_41 : decode cX7_takeBack 41 = .ok (.getfield 15, 3) := dq180 bw_cX7_takeBack_1 17 rfl rfl rfl
theorem dX7_takeBack_44 : decode cX7_takeBack 44 = .ok (.iaload, 1) := dq46 bw_cX7_takeBack_1 20 rfl rfl
theorem dX7_takeBack_45 : decode cX7_takeBack 45 = .ok (.putfield 31, 3) := dq181 bw_cX7_takeBack_1 21 rfl rfl rfl
theorem bw_cX7_takeBack_2 : dq_w cX7_takeBack 48 [43, 42, 180, 0, 25, 42, 180, 0, 15, 46, 181, 0, 35, 43, 180, 0, 37, 42, 180, 0, 18, 42, 180, 0, 15, 46, 42] = true := by decide +kernel
theorem dX7_takeBack_48 : decode cX7_takeBack 48 = .ok (.aload_n 1, 1) := dq43 bw_cX7_takeBack_2 0 rfl rfl
theorem dX7_takeBack_49 : decode cX7_takeBack 49 = .ok (.aload_n 0, 1) := dq42 bw_cX7_takeBack_2 1 rfl rfl
theorem dX7_takeBack_50 : decode cX7_takeBack 50 = .ok (.getfield 25, 3) := dq180 bw_cX7_takeBack_2 2 rfl rfl rfl
theorem dX7_takeBack_53 : decode cX7_takeBack 53 = .ok (.aload_n 0, 1) := dq42 bw_cX7_takeBack_2 5 rfl rfl
theorem dX7_takeBack_54 : decode cX7_takeBack 54 = .ok (.getfield 15, 3) := dq180 bw_cX7_takeBack_2 6 rfl rfl rfl
theorem dX7_takeBack_57 : decode cX7_takeBack 57 = .ok (.iaload, 1) := dq46 bw_cX7_takeBack_2 9 rfl rfl
theorem dX7_takeBack_58 : decode cX7_takeBack 58 = .ok (.putfield 35, 3) := dq181 bw_cX7_takeBack_2 10 rfl rfl rfl
theorem dX7_takeBack_61 : decode cX7_takeBack 61 = .ok (.aload_n 1, 1) := dq43 bw_cX7_takeBack_2 13 rfl rfl
theorem dX7_takeBack_62 : decode cX7_takeBack 62 = .ok (.getfield 37, 3) := dq180 bw_cX7_takeBack_2 14 rfl rfl rfl
theorem dX7_takeBack_65 : decode cX7_takeBack 65 = .ok (.aload_n 0, 1) := dq42 bw_cX7_takeBack_2 17 rfl rfl
theorem dX7_takeBack_66 : decode cX7_takeBack 66 = .ok (.getfield 18, 3) := dq180 bw_cX7_takeBack_2 18 rfl rfl rfl
theorem dX7_takeBack_69 : decode cX7_takeBack 69 = .ok (.aload_n 0, 1) := dq42 bw_cX7_takeBack_2 21 rfl rfl
theorem dX7_takeBack_70 : decode cX7_takeBack 70 = .ok (.getfield 15, 3) := dq180 bw_cX7_takeBack_2 22 rfl rfl rfl
theorem bw_cX7_takeBack_3 : dq_w cX7_takeBack 72 [15, 46, 42, 180, 0, 28, 42, 180, 0, 15, 46, 79, 4, 172] = true := by decide +kernel
theorem dX7_takeBack_73 : decode cX7_takeBack 73 = .ok (.iaload, 1) := dq46 bw_cX7_takeBack_3 1 rfl rfl
theorem dX7_takeBack_74 : decode cX7_takeBack 74 = .ok (.aload_n 0, 1) := dq42 bw_cX7_takeBack_3 2 rfl rfl
theorem dX7_takeBack_75 : decode cX7_takeBack 75 = .ok (.getfield 28, 3) := dq180 bw_cX7_takeBack_3 3 rfl rfl rfl
theorem dX7_takeBack_78 : decode cX7_takeBack 78 = .ok (.aload_n 0, 1) := dq42 bw_cX7_takeBack_3 6 rfl rfl
theorem dX7_takeBack_79 : decode cX7_takeBack 79 = .ok (.getfield 15, 3) := dq180 bw_cX7_takeBack_3 7 rfl rfl rfl
theorem dX7_takeBack_82 : decode cX7_takeBack 82 = .ok (.iaload, 1) := dq46 bw_cX7_takeBack_3 10 rfl rfl
theorem dX7_takeBack_83 : decode cX7_takeBack 83 = .ok (.iastore, 1) := dq79 bw_cX7_takeBack_3 11 rfl rfl
theorem dX7_takeBack_84 : decode cX7_takeBack 84 = .ok (.iconst 1, 1) := dq4 bw_cX7_takeBack_3 12 rfl rfl
theorem dX7_takeBack_85 : decode cX7_takeBack 85 = .ok (.ireturn, 1) := dq172 bw_cX7_takeBack_3 13 rfl rfl
theorem bw_cX11_undo_0 : dq_w cX11_undo 0 [42, 180, 0, 43, 42, 180, 0, 33, 182, 0, 196, 153, 0, 13, 42, 180, 0, 43, 180, 0, 102, 167, 0, 4, 2, 172] = true := by decide +kernel
theorem dX11_undo_0 : decode cX11_undo 0 = .ok (.aload_n 0, 1) := dq42 bw_cX11_undo_0 0 rfl rfl
theorem dX11_undo_1 : decode cX11_undo 1 = .ok (.getfield 43, 3) := dq180 bw_cX11_undo_0 1 rfl rfl rfl
theorem dX11_undo_4 : decode cX11_undo 4 = .ok (.aload_n 0, 1) := dq42 bw_cX11_undo_0 4 rfl rfl
theorem dX11_undo_5 : decode cX11_undo 5 = .ok (.getfield 33, 3) := dq180 bw_cX11_undo_0 5 rfl rfl rfl
theorem dX11_undo_8 : decode cX11_undo 8 = .ok (.invokevirtual 196, 3) := dq182 bw_cX11_undo_0 8 rfl rfl rfl
theorem dX11_undo_11 : decode cX11_undo 11 = .ok (.ifCond .eq 13, 3) := dq153 bw_cX11_undo_0 11 rfl rfl rfl
theorem dX11_undo_14 : decode cX11_undo 14 = .ok (.aload_n 0, 1) := dq42 bw_cX11_undo_0 14 rfl rfl
theorem dX11_undo_15 : decode cX11_undo 15 = .ok (.getfield 43, 3) := dq180 bw_cX11_undo_0 15 rfl rfl rfl
theorem dX11_undo_18 : decode cX11_undo 18 = .ok (.getfield 102, 3) := dq180 bw_cX11_undo_0 18 rfl rfl rfl
theorem dX11_undo_21 : decode cX11_undo 21 = .ok (.goto 4, 3) := dq167 bw_cX11_undo_0 21 rfl rfl rfl
theorem bw_cX11_undo_1 : dq_w cX11_undo 24 [2, 172] = true := by decide +kernel
theorem dX11_undo_24 : decode cX11_undo 24 = .ok (.iconst (-1), 1) := dq2 bw_cX11_undo_1 0 rfl rfl
theorem dX11_undo_25 : decode cX11_undo 25 = .ok (.ireturn, 1) := dq172 bw_cX11_undo_1 1 rfl rfl
theorem bw_cX6_beginAt_0 : dq_w cX6_beginAt 0 [42, 27, 181, 0, 9, 42, 3, 181, 0, 15, 3, 61, 28, 16, 14, 162, 0, 16, 42, 180, 0, 18, 28, 2, 79, 132, 2] = true := by decide +kernel
theorem dX6_beginAt_0 : decode cX6_beginAt 0 = .ok (.aload_n 0, 1) := dq42 bw_cX6_beginAt_0 0 rfl rfl
theorem dX6_beginAt_1 : decode cX6_beginAt 1 = .ok (.iload_n 1, 1) := dq27 bw_cX6_beginAt_0 1 rfl rfl
theorem dX6_beginAt_2 : decode cX6_beginAt 2 = .ok (.putfield 9, 3) := dq181 bw_cX6_beginAt_0 2 rfl rfl rfl
theorem dX6_beginAt_5 : decode cX6_beginAt 5 = .ok (.aload_n 0, 1) := dq42 bw_cX6_beginAt_0 5 rfl rfl
theorem dX6_beginAt_6 : decode cX6_beginAt 6 = .ok (.iconst 0, 1) := dq3 bw_cX6_beginAt_0 6 rfl rfl
theorem dX6_beginAt_7 : decode cX6_beginAt 7 = .ok (.putfield 15, 3) := dq181 bw_cX6_beginAt_0 7 rfl rfl rfl
theorem dX6_beginAt_10 : decode cX6_beginAt 10 = .ok (.iconst 0, 1) := dq3 bw_cX6_beginAt_0 10 rfl rfl
theorem dX6_beginAt_11 : decode cX6_beginAt 11 = .ok (.istore_n 2, 1) := dq61 bw_cX6_beginAt_0 11 rfl rfl
theorem dX6_beginAt_12 : decode cX6_beginAt 12 = .ok (.iload_n 2, 1) := dq28 bw_cX6_beginAt_0 12 rfl rfl
theorem dX6_beginAt_13 : decode cX6_beginAt 13 = .ok (.bipush 14, 2) := dq16 bw_cX6_beginAt_0 13 rfl rfl rfl
theorem dX6_beginAt_15 : decode cX6_beginAt 15 = .ok (.if_icmp .ge 16, 3) := dq162 bw_cX6_beginAt_0 15 rfl rfl rfl
theorem dX6_beginAt_18 : decode cX6_beginAt 18 = .ok (.aload_n 0, 1) := dq42 bw_cX6_beginAt_0 18 rfl rfl
theorem dX6_beginAt_19 : decode cX6_beginAt 19 = .ok (.getfield 18, 3) := dq180 bw_cX6_beginAt_0 19 rfl rfl rfl
theorem dX6_beginAt_22 : decode cX6_beginAt 22 = .ok (.iload_n 2, 1) := dq28 bw_cX6_beginAt_0 22 rfl rfl
theorem dX6_beginAt_23 : decode cX6_beginAt 23 = .ok (.iconst (-1), 1) := dq2 bw_cX6_beginAt_0 23 rfl rfl
theorem bw_cX6_beginAt_1 : dq_w cX6_beginAt 24 [79, 132, 2, 1, 167, 255, 240, 177] = true := by decide +kernel
theorem dX6_beginAt_24 : decode cX6_beginAt 24 = .ok (.iastore, 1) := dq79 bw_cX6_beginAt_1 0 rfl rfl
theorem dX6_beginAt_25 : decode cX6_beginAt 25 = .ok (.iinc 2 1, 3) := dq132 bw_cX6_beginAt_1 1 rfl rfl rfl
theorem dX6_beginAt_28 : decode cX6_beginAt 28 = .ok (.goto (-16), 3) := dq167 bw_cX6_beginAt_1 4 rfl rfl rfl
theorem dX6_beginAt_31 : decode cX6_beginAt 31 = .ok (.return_, 1) := dq177 bw_cX6_beginAt_1 7 rfl rfl
theorem bw_cX11_go_0 : dq_w cX11_go 0 [42, 180, 0, 19, 27, 182, 0, 144, 154, 0, 5, 3, 172, 42, 180, 0, 33, 27, 182, 0, 200, 42, 180, 0, 43, 3, 181] = true := by decide +kernel
theorem dX11_go_0 : decode cX11_go 0 = .ok (.aload_n 0, 1) := dq42 bw_cX11_go_0 0 rfl rfl
theorem dX11_go_1 : decode cX11_go 1 = .ok (.getfield 19, 3) := dq180 bw_cX11_go_0 1 rfl rfl rfl
theorem dX11_go_4 : decode cX11_go 4 = .ok (.iload_n 1, 1) := dq27 bw_cX11_go_0 4 rfl rfl
theorem dX11_go_5 : decode cX11_go 5 = .ok (.invokevirtual 144, 3) := dq182 bw_cX11_go_0 5 rfl rfl rfl
theorem dX11_go_8 : decode cX11_go 8 = .ok (.ifCond .ne 5, 3) := dq154 bw_cX11_go_0 8 rfl rfl rfl
theorem dX11_go_11 : decode cX11_go 11 = .ok (.iconst 0, 1) := dq3 bw_cX11_go_0 11 rfl rfl
theorem dX11_go_12 : decode cX11_go 12 = .ok (.ireturn, 1) := dq172 bw_cX11_go_0 12 rfl rfl
theorem dX11_go_13 : decode cX11_go 13 = .ok (.aload_n 0, 1) := dq42 bw_cX11_go_0 13 rfl rfl
theorem dX11_go_14 : decode cX11_go 14 = .ok (.getfield 33, 3) := dq180 bw_cX11_go_0 14 rfl rfl rfl
theorem dX11_go_17 : decode cX11_go 17 = .ok (.iload_n 1, 1) := dq27 bw_cX11_go_0 17 rfl rfl
theorem dX11_go_18 : decode cX11_go 18 = .ok (.invokevirtual 200, 3) := dq182 bw_cX11_go_0 18 rfl rfl rfl
theorem dX11_go_21 : decode cX11_go 21 = .ok (.aload_n 0, 1) := dq42 bw_cX11_go_0 21 rfl rfl
theorem dX11_go_22 : decode cX11_go 22 = .ok (.getfield 43, 3) := dq180 bw_cX11_go_0 22 rfl rfl rfl
theorem bw_cX11_go_1 : dq_w cX11_go 24 [43, 3, 181, 0, 102, 4, 172] = true := by decide +kernel
theorem dX11_go_25 : decode cX11_go 25 = .ok (.iconst 0, 1) := dq3 bw_cX11_go_1 1 rfl rfl
theorem dX11_go_26 : decode cX11_go 26 = .ok (.putfield 102, 3) := dq181 bw_cX11_go_1 2 rfl rfl rfl
theorem dX11_go_29 : decode cX11_go 29 = .ok (.iconst 1, 1) := dq4 bw_cX11_go_1 5 rfl rfl
theorem dX11_go_30 : decode cX11_go 30 = .ok (.ireturn, 1) := dq172 bw_cX11_go_1 6 rfl rfl
theorem bw_cX11_can_0 : dq_w cX11_can 0 [3, 60, 3, 61, 28, 42, 180, 0, 19, 180, 0, 168, 162, 0, 30, 42, 180, 0, 33, 42, 180, 0, 19, 28, 182, 0, 182] = true := by decide +kernel
theorem dX11_can_0 : decode cX11_can 0 = .ok (.iconst 0, 1) := dq3 bw_cX11_can_0 0 rfl rfl
theorem dX11_can_1 : decode cX11_can 1 = .ok (.istore_n 1, 1) := dq60 bw_cX11_can_0 1 rfl rfl
theorem dX11_can_2 : decode cX11_can 2 = .ok (.iconst 0, 1) := dq3 bw_cX11_can_0 2 rfl rfl
theorem dX11_can_3 : decode cX11_can 3 = .ok (.istore_n 2, 1) := dq61 bw_cX11_can_0 3 rfl rfl
theorem dX11_can_4 : decode cX11_can 4 = .ok (.iload_n 2, 1) := dq28 bw_cX11_can_0 4 rfl rfl
theorem dX11_can_5 : decode cX11_can 5 = .ok (.aload_n 0, 1) := dq42 bw_cX11_can_0 5 rfl rfl
theorem dX11_can_6 : decode cX11_can 6 = .ok (.getfield 19, 3) := dq180 bw_cX11_can_0 6 rfl rfl rfl
theorem dX11_can_9 : decode cX11_can 9 = .ok (.getfield 168, 3) := dq180 bw_cX11_can_0 9 rfl rfl rfl
theorem dX11_can_12 : decode cX11_can 12 = .ok (.if_icmp .ge 30, 3) := dq162 bw_cX11_can_0 12 rfl rfl rfl
theorem dX11_can_15 : decode cX11_can 15 = .ok (.aload_n 0, 1) := dq42 bw_cX11_can_0 15 rfl rfl
theorem dX11_can_16 : decode cX11_can 16 = .ok (.getfield 33, 3) := dq180 bw_cX11_can_0 16 rfl rfl rfl
theorem dX11_can_19 : decode cX11_can 19 = .ok (.aload_n 0, 1) := dq42 bw_cX11_can_0 19 rfl rfl
theorem dX11_can_20 : decode cX11_can 20 = .ok (.getfield 19, 3) := dq180 bw_cX11_can_0 20 rfl rfl rfl
theorem dX11_can_23 : decode cX11_can 23 = .ok (.iload_n 2, 1) := dq28 bw_cX11_can_0 23 rfl rfl
theorem bw_cX11_can_1 : dq_w cX11_can 24 [182, 0, 182, 154, 0, 9, 27, 4, 28, 120, 128, 60, 132, 2, 1, 167, 255, 221, 27, 172] = true := by decide +kernel
theorem dX11_can_24 : decode cX11_can 24 = .ok (.invokevirtual 182, 3) := dq182 bw_cX11_can_1 0 rfl rfl rfl
theorem dX11_can_27 : decode cX11_can 27 = .ok (.ifCond .ne 9, 3) := dq154 bw_cX11_can_1 3 rfl rfl rfl
theorem dX11_can_30 : decode cX11_can 30 = .ok (.iload_n 1, 1) := dq27 bw_cX11_can_1 6 rfl rfl
theorem dX11_can_31 : decode cX11_can 31 = .ok (.iconst 1, 1) := dq4 bw_cX11_can_1 7 rfl rfl
theorem dX11_can_32 : decode cX11_can 32 = .ok (.iload_n 2, 1) := dq28 bw_cX11_can_1 8 rfl rfl
theorem dX11_can_33 : decode cX11_can 33 = .ok (.ishl, 1) := dq120 bw_cX11_can_1 9 rfl rfl
theorem dX11_can_34 : decode cX11_can 34 = .ok (.ior, 1) := dq128 bw_cX11_can_1 10 rfl rfl
theorem dX11_can_35 : decode cX11_can 35 = .ok (.istore_n 1, 1) := dq60 bw_cX11_can_1 11 rfl rfl
theorem dX11_can_36 : decode cX11_can 36 = .ok (.iinc 2 1, 3) := dq132 bw_cX11_can_1 12 rfl rfl rfl
theorem dX11_can_39 : decode cX11_can 39 = .ok (.goto (-35), 3) := dq167 bw_cX11_can_1 15 rfl rfl rfl
theorem dX11_can_42 : decode cX11_can 42 = .ok (.iload_n 1, 1) := dq27 bw_cX11_can_1 18 rfl rfl
theorem dX11_can_43 : decode cX11_can 43 = .ok (.ireturn, 1) := dq172 bw_cX11_can_1 19 rfl rfl
theorem bw_cX9_firstBad_0 : dq_w cX9_firstBad 0 [28, 153, 0, 16, 42, 43, 3, 52, 16, 97, 100, 182, 0, 32, 154, 0, 5, 3, 172, 43, 3, 52, 16, 97, 100, 62, 4] = true := by decide +kernel
theorem dX9_firstBad_0 : decode cX9_firstBad 0 = .ok (.iload_n 2, 1) := dq28 bw_cX9_firstBad_0 0 rfl rfl
theorem dX9_firstBad_1 : decode cX9_firstBad 1 = .ok (.ifCond .eq 16, 3) := dq153 bw_cX9_firstBad_0 1 rfl rfl rfl
theorem dX9_firstBad_4 : decode cX9_firstBad 4 = .ok (.aload_n 0, 1) := dq42 bw_cX9_firstBad_0 4 rfl rfl
theorem dX9_firstBad_5 : decode cX9_firstBad 5 = .ok (.aload_n 1, 1) := dq43 bw_cX9_firstBad_0 5 rfl rfl
theorem dX9_firstBad_6 : decode cX9_firstBad 6 = .ok (.iconst 0, 1) := dq3 bw_cX9_firstBad_0 6 rfl rfl
theorem dX9_firstBad_7 : decode cX9_firstBad 7 = .ok (.caload, 1) := dq52 bw_cX9_firstBad_0 7 rfl rfl
theorem dX9_firstBad_8 : decode cX9_firstBad 8 = .ok (.bipush 97, 2) := dq16 bw_cX9_firstBad_0 8 rfl rfl rfl
theorem dX9_firstBad_10 : decode cX9_firstBad 10 = .ok (.isub, 1) := dq100 bw_cX9_firstBad_0 10 rfl rfl
theorem dX9_firstBad_11 : decode cX9_firstBad 11 = .ok (.invokevirtual 32, 3) := dq182 bw_cX9_firstBad_0 11 rfl rfl rfl
theorem dX9_firstBad_14 : decode cX9_firstBad 14 = .ok (.ifCond .ne 5, 3) := dq154 bw_cX9_firstBad_0 14 rfl rfl rfl
theorem dX9_firstBad_17 : decode cX9_firstBad 17 = .ok (.iconst 0, 1) := dq3 bw_cX9_firstBad_0 17 rfl rfl
theorem dX9_firstBad_18 : decode cX9_firstBad 18 = .ok (.ireturn, 1) := dq172 bw_cX9_firstBad_0 18 rfl rfl
theorem dX9_firstBad_19 : decode cX9_firstBad 19 = .ok (.aload_n 1, 1) := dq43 bw_cX9_firstBad_0 19 rfl rfl
theorem dX9_firstBad_20 : decode cX9_firstBad 20 = .ok (.iconst 0, 1) := dq3 bw_cX9_firstBad_0 20 rfl rfl
theorem dX9_firstBad_21 : decode cX9_firstBad 21 = .ok (.caload, 1) := dq52 bw_cX9_firstBad_0 21 rfl rfl
theorem dX9_firstBad_22 : decode cX9_firstBad 22 = .ok (.bipush 97, 2) := dq16 bw_cX9_firstBad_0 22 rfl rfl rfl
theorem bw_cX9_firstBad_1 : dq_w cX9_firstBad 24 [100, 62, 4, 54, 4, 21, 4, 28, 162, 0, 55, 43, 21, 4, 52, 16, 65, 100, 54, 5, 21, 4, 16, 30, 162, 0, 22] = true := by decide +kernel
theorem dX9_firstBad_24 : decode cX9_firstBad 24 = .ok (.isub, 1) := dq100 bw_cX9_firstBad_1 0 rfl rfl
theorem dX9_firstBad_25 : decode cX9_firstBad 25 = .ok (.istore_n 3, 1) := dq62 bw_cX9_firstBad_1 1 rfl rfl
theorem dX9_firstBad_26 : decode cX9_firstBad 26 = .ok (.iconst 1, 1) := dq4 bw_cX9_firstBad_1 2 rfl rfl
theorem dX9_firstBad_27 : decode cX9_firstBad 27 = .ok (.istore 4, 2) := dq54 bw_cX9_firstBad_1 3 rfl rfl
theorem dX9_firstBad_29 : decode cX9_firstBad 29 = .ok (.iload 4, 2) := dq21 bw_cX9_firstBad_1 5 rfl rfl
theorem dX9_firstBad_31 : decode cX9_firstBad 31 = .ok (.iload_n 2, 1) := dq28 bw_cX9_firstBad_1 7 rfl rfl
theorem dX9_firstBad_32 : decode cX9_firstBad 32 = .ok (.if_icmp .ge 55, 3) := dq162 bw_cX9_firstBad_1 8 rfl rfl rfl
theorem dX9_firstBad_35 : decode cX9_firstBad 35 = .ok (.aload_n 1, 1) := dq43 bw_cX9_firstBad_1 11 rfl rfl
theorem dX9_firstBad_36 : decode cX9_firstBad 36 = .ok (.iload 4, 2) := dq21 bw_cX9_firstBad_1 12 rfl rfl
theorem dX9_firstBad_38 : decode cX9_firstBad 38 = .ok (.caload, 1) := dq52 bw_cX9_firstBad_1 14 rfl rfl
theorem dX9_firstBad_39 : decode cX9_firstBad 39 = .ok (.bipush 65, 2) := dq16 bw_cX9_firstBad_1 15 rfl rfl rfl
theorem dX9_firstBad_41 : decode cX9_firstBad 41 = .ok (.isub, 1) := dq100 bw_cX9_firstBad_1 17 rfl rfl
theorem dX9_firstBad_42 : decode cX9_firstBad 42 = .ok (.istore 5, 2) := dq54 bw_cX9_firstBad_1 18 rfl rfl
theorem dX9_firstBad_44 : decode cX9_firstBad 44 = .ok (.iload 4, 2) := dq21 bw_cX9_firstBad_1 20 rfl rfl
theorem dX9_firstBad_46 : decode cX9_firstBad 46 = .ok (.bipush 30, 2) := dq16 bw_cX9_firstBad_1 22 rfl rfl rfl
theorem bw_cX9_firstBad_2 : dq_w cX9_firstBad 48 [162, 0, 22, 42, 21, 5, 182, 0, 38, 153, 0, 13, 42, 21, 5, 29, 182, 0, 41, 154, 0, 6, 21, 4, 172, 42, 21] = true := by decide +kernel
theorem dX9_firstBad_48 : decode cX9_firstBad 48 = .ok (.if_icmp .ge 22, 3) := dq162 bw_cX9_firstBad_2 0 rfl rfl rfl
theorem dX9_firstBad_51 : decode cX9_firstBad 51 = .ok (.aload_n 0, 1) := dq42 bw_cX9_firstBad_2 3 rfl rfl
theorem dX9_firstBad_52 : decode cX9_firstBad 52 = .ok (.iload 5, 2) := dq21 bw_cX9_firstBad_2 4 rfl rfl
theorem dX9_firstBad_54 : decode cX9_firstBad 54 = .ok (.invokevirtual 38, 3) := dq182 bw_cX9_firstBad_2 6 rfl rfl rfl
theorem dX9_firstBad_57 : decode cX9_firstBad 57 = .ok (.ifCond .eq 13, 3) := dq153 bw_cX9_firstBad_2 9 rfl rfl rfl
theorem dX9_firstBad_60 : decode cX9_firstBad 60 = .ok (.aload_n 0, 1) := dq42 bw_cX9_firstBad_2 12 rfl rfl
theorem dX9_firstBad_61 : decode cX9_firstBad 61 = .ok (.iload 5, 2) := dq21 bw_cX9_firstBad_2 13 rfl rfl
theorem dX9_firstBad_63 : decode cX9_firstBad 63 = .ok (.iload_n 3, 1) := dq29 bw_cX9_firstBad_2 15 rfl rfl
theorem dX9_firstBad_64 : decode cX9_firstBad 64 = .ok (.invokevirtual 41, 3) := dq182 bw_cX9_firstBad_2 16 rfl rfl rfl
theorem dX9_firstBad_67 : decode cX9_firstBad 67 = .ok (.ifCond .ne 6, 3) := dq154 bw_cX9_firstBad_2 19 rfl rfl rfl
theorem dX9_firstBad_70 : decode cX9_firstBad 70 = .ok (.iload 4, 2) := dq21 bw_cX9_firstBad_2 22 rfl rfl
theorem bw_cX9_firstBad_3 : dq_w cX9_firstBad 72 [172, 42, 21, 5, 29, 182, 0, 45, 62, 132, 4, 1, 167, 255, 201, 2, 172] = true := by decide +kernel
theorem dX9_firstBad_72 : decode cX9_firstBad 72 = .ok (.ireturn, 1) := dq172 bw_cX9_firstBad_3 0 rfl rfl
theorem dX9_firstBad_73 : decode cX9_firstBad 73 = .ok (.aload_n 0, 1) := dq42 bw_cX9_firstBad_3 1 rfl rfl
theorem dX9_firstBad_74 : decode cX9_firstBad 74 = .ok (.iload 5, 2) := dq21 bw_cX9_firstBad_3 2 rfl rfl
theorem dX9_firstBad_76 : decode cX9_firstBad 76 = .ok (.iload_n 3, 1) := dq29 bw_cX9_firstBad_3 4 rfl rfl
theorem dX9_firstBad_77 : decode cX9_firstBad 77 = .ok (.invokevirtual 45, 3) := dq182 bw_cX9_firstBad_3 5 rfl rfl rfl
theorem dX9_firstBad_80 : decode cX9_firstBad 80 = .ok (.istore_n 3, 1) := dq62 bw_cX9_firstBad_3 8 rfl rfl
theorem dX9_firstBad_81 : decode cX9_firstBad 81 = .ok (.iinc 4 1, 3) := dq132 bw_cX9_firstBad_3 9 rfl rfl rfl
theorem dX9_firstBad_84 : decode cX9_firstBad 84 = .ok (.goto (-55), 3) := dq167 bw_cX9_firstBad_3 12 rfl rfl rfl
theorem dX9_firstBad_87 : decode cX9_firstBad 87 = .ok (.iconst (-1), 1) := dq2 bw_cX9_firstBad_3 15 rfl rfl
theorem dX9_firstBad_88 : decode cX9_firstBad 88 = .ok (.ireturn, 1) := dq172 bw_cX9_firstBad_3 16 rfl rfl
theorem bw_cX9_lay_0 : dq_w cX9_lay 0 [42, 4, 181, 0, 9, 42, 43, 3, 52, 16, 97, 100, 181, 0, 15, 42, 28, 4, 100, 181, 0, 19, 3, 62, 29, 42, 180] = true := by decide +kernel
theorem dX9_lay_0 : decode cX9_lay 0 = .ok (.aload_n 0, 1) := dq42 bw_cX9_lay_0 0 rfl rfl
theorem dX9_lay_1 : decode cX9_lay 1 = .ok (.iconst 1, 1) := dq4 bw_cX9_lay_0 1 rfl rfl
theorem dX9_lay_2 : decode cX9_lay 2 = .ok (.putfield 9, 3) := dq181 bw_cX9_lay_0 2 rfl rfl rfl
theorem dX9_lay_5 : decode cX9_lay 5 = .ok (.aload_n 0, 1) := dq42 bw_cX9_lay_0 5 rfl rfl
theorem dX9_lay_6 : decode cX9_lay 6 = .ok (.aload_n 1, 1) := dq43 bw_cX9_lay_0 6 rfl rfl
theorem dX9_lay_7 : decode cX9_lay 7 = .ok (.iconst 0, 1) := dq3 bw_cX9_lay_0 7 rfl rfl
theorem dX9_lay_8 : decode cX9_lay 8 = .ok (.caload, 1) := dq52 bw_cX9_lay_0 8 rfl rfl
theorem dX9_lay_9 : decode cX9_lay 9 = .ok (.bipush 97, 2) := dq16 bw_cX9_lay_0 9 rfl rfl rfl
theorem dX9_lay_11 : decode cX9_lay 11 = .ok (.isub, 1) := dq100 bw_cX9_lay_0 11 rfl rfl
theorem dX9_lay_12 : decode cX9_lay 12 = .ok (.putfield 15, 3) := dq181 bw_cX9_lay_0 12 rfl rfl rfl
theorem dX9_lay_15 : decode cX9_lay 15 = .ok (.aload_n 0, 1) := dq42 bw_cX9_lay_0 15 rfl rfl
theorem dX9_lay_16 : decode cX9_lay 16 = .ok (.iload_n 2, 1) := dq28 bw_cX9_lay_0 16 rfl rfl
theorem dX9_lay_17 : decode cX9_lay 17 = .ok (.iconst 1, 1) := dq4 bw_cX9_lay_0 17 rfl rfl
theorem dX9_lay_18 : decode cX9_lay 18 = .ok (.isub, 1) := dq100 bw_cX9_lay_0 18 rfl rfl
theorem dX9_lay_19 : decode cX9_lay 19 = .ok (.putfield 19, 3) := dq181 bw_cX9_lay_0 19 rfl rfl rfl
theorem dX9_lay_22 : decode cX9_lay 22 = .ok (.iconst 0, 1) := dq3 bw_cX9_lay_0 22 rfl rfl
theorem dX9_lay_23 : decode cX9_lay 23 = .ok (.istore_n 3, 1) := dq62 bw_cX9_lay_0 23 rfl rfl
theorem bw_cX9_lay_1 : dq_w cX9_lay 24 [29, 42, 180, 0, 19, 162, 0, 23, 42, 180, 0, 22, 29, 43, 29, 4, 96, 52, 16, 65, 100, 79, 132, 3, 1, 167, 255] = true := by decide +kernel
theorem dX9_lay_24 : decode cX9_lay 24 = .ok (.iload_n 3, 1) := dq29 bw_cX9_lay_1 0 rfl rfl
theorem dX9_lay_25 : decode cX9_lay 25 = .ok (.aload_n 0, 1) := dq42 bw_cX9_lay_1 1 rfl rfl
theorem dX9_lay_26 : decode cX9_lay 26 = .ok (.getfield 19, 3) := dq180 bw_cX9_lay_1 2 rfl rfl rfl
theorem dX9_lay_29 : decode cX9_lay 29 = .ok (.if_icmp .ge 23, 3) := dq162 bw_cX9_lay_1 5 rfl rfl rfl
theorem dX9_lay_32 : decode cX9_lay 32 = .ok (.aload_n 0, 1) := dq42 bw_cX9_lay_1 8 rfl rfl
theorem dX9_lay_33 : decode cX9_lay 33 = .ok (.getfield 22, 3) := dq180 bw_cX9_lay_1 9 rfl rfl rfl
theorem dX9_lay_36 : decode cX9_lay 36 = .ok (.iload_n 3, 1) := dq29 bw_cX9_lay_1 12 rfl rfl
theorem dX9_lay_37 : decode cX9_lay 37 = .ok (.aload_n 1, 1) := dq43 bw_cX9_lay_1 13 rfl rfl
theorem dX9_lay_38 : decode cX9_lay 38 = .ok (.iload_n 3, 1) := dq29 bw_cX9_lay_1 14 rfl rfl
theorem dX9_lay_39 : decode cX9_lay 39 = .ok (.iconst 1, 1) := dq4 bw_cX9_lay_1 15 rfl rfl
theorem dX9_lay_40 : decode cX9_lay 40 = .ok (.iadd, 1) := dq96 bw_cX9_lay_1 16 rfl rfl
theorem dX9_lay_41 : decode cX9_lay 41 = .ok (.caload, 1) := dq52 bw_cX9_lay_1 17 rfl rfl
theorem dX9_lay_42 : decode cX9_lay 42 = .ok (.bipush 65, 2) := dq16 bw_cX9_lay_1 18 rfl rfl rfl
theorem dX9_lay_44 : decode cX9_lay 44 = .ok (.isub, 1) := dq100 bw_cX9_lay_1 20 rfl rfl
theorem dX9_lay_45 : decode cX9_lay 45 = .ok (.iastore, 1) := dq79 bw_cX9_lay_1 21 rfl rfl
theorem dX9_lay_46 : decode cX9_lay 46 = .ok (.iinc 3 1, 3) := dq132 bw_cX9_lay_1 22 rfl rfl rfl
theorem bw_cX9_lay_2 : dq_w cX9_lay 48 [1, 167, 255, 231, 177] = true := by decide +kernel
theorem dX9_lay_49 : decode cX9_lay 49 = .ok (.goto (-25), 3) := dq167 bw_cX9_lay_2 1 rfl rfl rfl
theorem dX9_lay_52 : decode cX9_lay 52 = .ok (.return_, 1) := dq177 bw_cX9_lay_2 4 rfl rfl
theorem bw_cX9_schedule_0 : dq_w cX9_schedule 0 [42, 180, 0, 26, 3, 42, 180, 0, 15, 79, 42, 180, 0, 29, 3, 3, 79, 3, 61, 28, 42, 180, 0, 19, 162, 0, 61] = true := by decide +kernel
theorem dX9_schedule_0 : decode cX9_schedule 0 = .ok (.aload_n 0, 1) := dq42 bw_cX9_schedule_0 0 rfl rfl
theorem dX9_schedule_1 : decode cX9_schedule 1 = .ok (.getfield 26, 3) := dq180 bw_cX9_schedule_0 1 rfl rfl rfl
theorem dX9_schedule_4 : decode cX9_schedule 4 = .ok (.iconst 0, 1) := dq3 bw_cX9_schedule_0 4 rfl rfl
theorem dX9_schedule_5 : decode cX9_schedule 5 = .ok (.aload_n 0, 1) := dq42 bw_cX9_schedule_0 5 rfl rfl
theorem dX9_schedule_6 : decode cX9_schedule 6 = .ok (.getfield 15, 3) := dq180 bw_cX9_schedule_0 6 rfl rfl rfl
theorem dX9_schedule_9 : decode cX9_schedule 9 = .ok (.iastore, 1) := dq79 bw_cX9_schedule_0 9 rfl rfl
theorem dX9_schedule_10 : decode cX9_schedule 10 = .ok (.aload_n 0, 1) := dq42 bw_cX9_schedule_0 10 rfl rfl
theorem dX9_schedule_11 : decode cX9_schedule 11 = .ok (.getfield 29, 3) := dq180 bw_cX9_schedule_0 11 rfl rfl rfl
theorem dX9_schedule_14 : decode cX9_schedule 14 = .ok (.iconst 0, 1) := dq3 bw_cX9_schedule_0 14 rfl rfl
theorem dX9_schedule_15 : decode cX9_schedule 15 = .ok (.iconst 0, 1) := dq3 bw_cX9_schedule_0 15 rfl rfl
theorem dX9_schedule_16 : decode cX9_schedule 16 = .ok (.iastore, 1) := dq79 bw_cX9_schedule_0 16 rfl rfl
theorem dX9_schedule_17 : decode cX9_schedule 17 = .ok (.iconst 0, 1) := dq3 bw_cX9_schedule_0 17 rfl rfl
theorem dX9_schedule_18 : decode cX9_schedule 18 = .ok (.istore_n 2, 1) := dq61 bw_cX9_schedule_0 18 rfl rfl
theorem dX9_schedule_19 : decode cX9_schedule 19 = .ok (.iload_n 2, 1) := dq28 bw_cX9_schedule_0 19 rfl rfl
theorem dX9_schedule_20 : decode cX9_schedule 20 = .ok (.aload_n 0, 1) := dq42 bw_cX9_schedule_0 20 rfl rfl
theorem dX9_schedule_21 : decode cX9_schedule 21 = .ok (.getfield 19, 3) := dq180 bw_cX9_schedule_0 21 rfl rfl rfl
theorem bw_cX9_schedule_1 : dq_w cX9_schedule 24 [162, 0, 61, 42, 180, 0, 22, 28, 46, 62, 42, 180, 0, 29, 28, 4, 96, 42, 180, 0, 29, 28, 46, 43, 29, 42, 180] = true := by decide +kernel
theorem dX9_schedule_24 : decode cX9_schedule 24 = .ok (.if_icmp .ge 61, 3) := dq162 bw_cX9_schedule_1 0 rfl rfl rfl
theorem dX9_schedule_27 : decode cX9_schedule 27 = .ok (.aload_n 0, 1) := dq42 bw_cX9_schedule_1 3 rfl rfl
theorem dX9_schedule_28 : decode cX9_schedule 28 = .ok (.getfield 22, 3) := dq180 bw_cX9_schedule_1 4 rfl rfl rfl
theorem dX9_schedule_31 : decode cX9_schedule 31 = .ok (.iload_n 2, 1) := dq28 bw_cX9_schedule_1 7 rfl rfl
theorem dX9_schedule_32 : decode cX9_schedule 32 = .ok (.iaload, 1) := dq46 bw_cX9_schedule_1 8 rfl rfl
theorem dX9_schedule_33 : decode cX9_schedule 33 = .ok (.istore_n 3, 1) := dq62 bw_cX9_schedule_1 9 rfl rfl
theorem dX9_schedule_34 : decode cX9_schedule 34 = .ok (.aload_n 0, 1) := dq42 bw_cX9_schedule_1 10 rfl rfl
theorem dX9_schedule_35 : decode cX9_schedule 35 = .ok (.getfield 29, 3) := dq180 bw_cX9_schedule_1 11 rfl rfl rfl
theorem dX9_schedule_38 : decode cX9_schedule 38 = .ok (.iload_n 2, 1) := dq28 bw_cX9_schedule_1 14 rfl rfl
theorem dX9_schedule_39 : decode cX9_schedule 39 = .ok (.iconst 1, 1) := dq4 bw_cX9_schedule_1 15 rfl rfl
theorem dX9_schedule_40 : decode cX9_schedule 40 = .ok (.iadd, 1) := dq96 bw_cX9_schedule_1 16 rfl rfl
theorem dX9_schedule_41 : decode cX9_schedule 41 = .ok (.aload_n 0, 1) := dq42 bw_cX9_schedule_1 17 rfl rfl
theorem dX9_schedule_42 : decode cX9_schedule 42 = .ok (.getfield 29, 3) := dq180 bw_cX9_schedule_1 18 rfl rfl rfl
theorem dX9_schedule_45 : decode cX9_schedule 45 = .ok (.iload_n 2, 1) := dq28 bw_cX9_schedule_1 21 rfl rfl
theorem dX9_schedule_46 : decode cX9_schedule 46 = .ok (.iaload, 1) := dq46 bw_cX9_schedule_1 22 rfl rfl
theorem dX9_schedule_47 : decode cX9_schedule 47 = .ok (.aload_n 1, 1) := dq43 bw_cX9_schedule_1 23 rfl rfl
theorem bw_cX9_schedule_2 : dq_w cX9_schedule 48 [29, 42, 180, 0, 26, 28, 46, 182, 0, 49, 96, 79, 42, 180, 0, 26, 28, 4, 96, 43, 29, 42, 180, 0, 26, 28, 46] = true := by decide +kernel
theorem dX9_schedule_48 : decode cX9_schedule 48 = .ok (.iload_n 3, 1) := dq29 bw_cX9_schedule_2 0 rfl rfl
theorem dX9_schedule_49 : decode cX9_schedule 49 = .ok (.aload_n 0, 1) := dq42 bw_cX9_schedule_2 1 rfl rfl
theorem dX9_schedule_50 : decode cX9_schedule 50 = .ok (.getfield 26, 3) := dq180 bw_cX9_schedule_2 2 rfl rfl rfl
theorem dX9_schedule_53 : decode cX9_schedule 53 = .ok (.iload_n 2, 1) := dq28 bw_cX9_schedule_2 5 rfl rfl
theorem dX9_schedule_54 : decode cX9_schedule 54 = .ok (.iaload, 1) := dq46 bw_cX9_schedule_2 6 rfl rfl
theorem dX9_schedule_55 : decode cX9_schedule 55 = .ok (.invokevirtual 49, 3) := dq182 bw_cX9_schedule_2 7 rfl rfl rfl
theorem dX9_schedule_58 : decode cX9_schedule 58 = .ok (.iadd, 1) := dq96 bw_cX9_schedule_2 10 rfl rfl
theorem dX9_schedule_59 : decode cX9_schedule 59 = .ok (.iastore, 1) := dq79 bw_cX9_schedule_2 11 rfl rfl
theorem dX9_schedule_60 : decode cX9_schedule 60 = .ok (.aload_n 0, 1) := dq42 bw_cX9_schedule_2 12 rfl rfl
theorem dX9_schedule_61 : decode cX9_schedule 61 = .ok (.getfield 26, 3) := dq180 bw_cX9_schedule_2 13 rfl rfl rfl
theorem dX9_schedule_64 : decode cX9_schedule 64 = .ok (.iload_n 2, 1) := dq28 bw_cX9_schedule_2 16 rfl rfl
theorem dX9_schedule_65 : decode cX9_schedule 65 = .ok (.iconst 1, 1) := dq4 bw_cX9_schedule_2 17 rfl rfl
theorem dX9_schedule_66 : decode cX9_schedule 66 = .ok (.iadd, 1) := dq96 bw_cX9_schedule_2 18 rfl rfl
theorem dX9_schedule_67 : decode cX9_schedule 67 = .ok (.aload_n 1, 1) := dq43 bw_cX9_schedule_2 19 rfl rfl
theorem dX9_schedule_68 : decode cX9_schedule 68 = .ok (.iload_n 3, 1) := dq29 bw_cX9_schedule_2 20 rfl rfl
theorem dX9_schedule_69 : decode cX9_schedule 69 = .ok (.aload_n 0, 1) := dq42 bw_cX9_schedule_2 21 rfl rfl
theorem dX9_schedule_70 : decode cX9_schedule 70 = .ok (.getfield 26, 3) := dq180 bw_cX9_schedule_2 22 rfl rfl rfl
theorem bw_cX9_schedule_3 : dq_w cX9_schedule 72 [26, 28, 46, 182, 0, 45, 79, 132, 2, 1, 167, 255, 193, 42, 180, 0, 29, 42, 180, 0, 19, 46, 172] = true := by decide +kernel
theorem dX9_schedule_73 : decode cX9_schedule 73 = .ok (.iload_n 2, 1) := dq28 bw_cX9_schedule_3 1 rfl rfl
theorem dX9_schedule_74 : decode cX9_schedule 74 = .ok (.iaload, 1) := dq46 bw_cX9_schedule_3 2 rfl rfl
theorem dX9_schedule_75 : decode cX9_schedule 75 = .ok (.invokevirtual 45, 3) := dq182 bw_cX9_schedule_3 3 rfl rfl rfl
theorem dX9_schedule_78 : decode cX9_schedule 78 = .ok (.iastore, 1) := dq79 bw_cX9_schedule_3 6 rfl rfl
theorem dX9_schedule_79 : decode cX9_schedule 79 = .ok (.iinc 2 1, 3) := dq132 bw_cX9_schedule_3 7 rfl rfl rfl
theorem dX9_schedule_82 : decode cX9_schedule 82 = .ok (.goto (-63), 3) := dq167 bw_cX9_schedule_3 10 rfl rfl rfl
theorem dX9_schedule_85 : decode cX9_schedule 85 = .ok (.aload_n 0, 1) := dq42 bw_cX9_schedule_3 13 rfl rfl
theorem dX9_schedule_86 : decode cX9_schedule 86 = .ok (.getfield 29, 3) := dq180 bw_cX9_schedule_3 14 rfl rfl rfl
theorem dX9_schedule_89 : decode cX9_schedule 89 = .ok (.aload_n 0, 1) := dq42 bw_cX9_schedule_3 17 rfl rfl
theorem dX9_schedule_90 : decode cX9_schedule 90 = .ok (.getfield 19, 3) := dq180 bw_cX9_schedule_3 18 rfl rfl rfl
theorem dX9_schedule_93 : decode cX9_schedule 93 = .ok (.iaload, 1) := dq46 bw_cX9_schedule_3 21 rfl rfl
theorem dX9_schedule_94 : decode cX9_schedule 94 = .ok (.ireturn, 1) := dq172 bw_cX9_schedule_3 22 rfl rfl
theorem bw_cX5_clear_0 : dq_w cX5_clear 0 [42, 3, 181, 0, 15, 177] = true := by decide +kernel
theorem dX5_clear_0 : decode cX5_clear 0 = .ok (.aload_n 0, 1) := dq42 bw_cX5_clear_0 0 rfl rfl
theorem dX5_clear_1 : decode cX5_clear 1 = .ok (.iconst 0, 1) := dq3 bw_cX5_clear_0 1 rfl rfl
theorem dX5_clear_2 : decode cX5_clear 2 = .ok (.putfield 15, 3) := dq181 bw_cX5_clear_0 2 rfl rfl rfl
theorem dX5_clear_5 : decode cX5_clear 5 = .ok (.return_, 1) := dq177 bw_cX5_clear_0 5 rfl rfl
theorem bw_cX5_add_0 : dq_w cX5_add 0 [42, 180, 0, 15, 16, 14, 162, 0, 23, 42, 180, 0, 9, 42, 180, 0, 15, 27, 79, 42, 89, 180, 0, 15, 4, 96, 181] = true := by decide +kernel
theorem dX5_add_0 : decode cX5_add 0 = .ok (.aload_n 0, 1) := dq42 bw_cX5_add_0 0 rfl rfl
theorem dX5_add_1 : decode cX5_add 1 = .ok (.getfield 15, 3) := dq180 bw_cX5_add_0 1 rfl rfl rfl
theorem dX5_add_4 : decode cX5_add 4 = .ok (.bipush 14, 2) := dq16 bw_cX5_add_0 4 rfl rfl rfl
theorem dX5_add_6 : decode cX5_add 6 = .ok (.if_icmp .ge 23, 3) := dq162 bw_cX5_add_0 6 rfl rfl rfl
theorem dX5_add_9 : decode cX5_add 9 = .ok (.aload_n 0, 1) := dq42 bw_cX5_add_0 9 rfl rfl
theorem dX5_add_10 : decode cX5_add 10 = .ok (.getfield 9, 3) := dq180 bw_cX5_add_0 10 rfl rfl rfl
theorem dX5_add_13 : decode cX5_add 13 = .ok (.aload_n 0, 1) := dq42 bw_cX5_add_0 13 rfl rfl
theorem dX5_add_14 : decode cX5_add 14 = .ok (.getfield 15, 3) := dq180 bw_cX5_add_0 14 rfl rfl rfl
theorem dX5_add_17 : decode cX5_add 17 = .ok (.iload_n 1, 1) := dq27 bw_cX5_add_0 17 rfl rfl
theorem dX5_add_18 : decode cX5_add 18 = .ok (.iastore, 1) := dq79 bw_cX5_add_0 18 rfl rfl
theorem dX5_add_19 : decode cX5_add 19 = .ok (.aload_n 0, 1) := dq42 bw_cX5_add_0 19 rfl rfl
theorem dX5_add_20 : decode cX5_add 20 = .ok (.dup, 1) := dq89 bw_cX5_add_0 20 rfl rfl
theorem dX5_add_21 : decode cX5_add 21 = .ok (.getfield 15, 3) := dq180 bw_cX5_add_0 21 rfl rfl rfl
theorem bw_cX5_add_1 : dq_w cX5_add 24 [4, 96, 181, 0, 15, 177] = true := by decide +kernel
theorem dX5_add_24 : decode cX5_add 24 = .ok (.iconst 1, 1) := dq4 bw_cX5_add_1 0 rfl rfl
theorem dX5_add_25 : decode cX5_add 25 = .ok (.iadd, 1) := dq96 bw_cX5_add_1 1 rfl rfl
theorem dX5_add_26 : decode cX5_add 26 = .ok (.putfield 15, 3) := dq181 bw_cX5_add_1 2 rfl rfl rfl
theorem dX5_add_29 : decode cX5_add 29 = .ok (.return_, 1) := dq177 bw_cX5_add_1 5 rfl rfl
theorem bw_cX5_tell_0 : dq_w cX5_tell 0 [42, 182, 0, 19, 42, 27, 182, 0, 22, 177] = true := by decide +kernel
theorem dX5_tell_0 : decode cX5_tell 0 = .ok (.aload_n 0, 1) := dq42 bw_cX5_tell_0 0 rfl rfl
theorem dX5_tell_1 : decode cX5_tell 1 = .ok (.invokevirtual 19, 3) := dq182 bw_cX5_tell_0 1 rfl rfl rfl
theorem dX5_tell_4 : decode cX5_tell 4 = .ok (.aload_n 0, 1) := dq42 bw_cX5_tell_0 4 rfl rfl
theorem dX5_tell_5 : decode cX5_tell 5 = .ok (.iload_n 1, 1) := dq27 bw_cX5_tell_0 5 rfl rfl
theorem dX5_tell_6 : decode cX5_tell 6 = .ok (.invokevirtual 22, 3) := dq182 bw_cX5_tell_0 6 rfl rfl rfl
theorem dX5_tell_9 : decode cX5_tell 9 = .ok (.return_, 1) := dq177 bw_cX5_tell_0 9 rfl rfl
theorem bw_cX9_bits_0 : dq_w cX9_bits 0 [3, 60, 3, 61, 28, 42, 180, 0, 19, 162, 0, 20, 27, 4, 42, 180, 0, 22, 28, 46, 120, 128, 60, 132, 2, 1, 167] = true := by decide +kernel
theorem dX9_bits_0 : decode cX9_bits 0 = .ok (.iconst 0, 1) := dq3 bw_cX9_bits_0 0 rfl rfl
theorem dX9_bits_1 : decode cX9_bits 1 = .ok (.istore_n 1, 1) := dq60 bw_cX9_bits_0 1 rfl rfl
theorem dX9_bits_2 : decode cX9_bits 2 = .ok (.iconst 0, 1) := dq3 bw_cX9_bits_0 2 rfl rfl
theorem dX9_bits_3 : decode cX9_bits 3 = .ok (.istore_n 2, 1) := dq61 bw_cX9_bits_0 3 rfl rfl
theorem dX9_bits_4 : decode cX9_bits 4 = .ok (.iload_n 2, 1) := dq28 bw_cX9_bits_0 4 rfl rfl
theorem dX9_bits_5 : decode cX9_bits 5 = .ok (.aload_n 0, 1) := dq42 bw_cX9_bits_0 5 rfl rfl
theorem dX9_bits_6 : decode cX9_bits 6 = .ok (.getfield 19, 3) := dq180 bw_cX9_bits_0 6 rfl rfl rfl
theorem dX9_bits_9 : decode cX9_bits 9 = .ok (.if_icmp .ge 20, 3) := dq162 bw_cX9_bits_0 9 rfl rfl rfl
theorem dX9_bits_12 : decode cX9_bits 12 = .ok (.iload_n 1, 1) := dq27 bw_cX9_bits_0 12 rfl rfl
theorem dX9_bits_13 : decode cX9_bits 13 = .ok (.iconst 1, 1) := dq4 bw_cX9_bits_0 13 rfl rfl
theorem dX9_bits_14 : decode cX9_bits 14 = .ok (.aload_n 0, 1) := dq42 bw_cX9_bits_0 14 rfl rfl
theorem dX9_bits_15 : decode cX9_bits 15 = .ok (.getfield 22, 3) := dq180 bw_cX9_bits_0 15 rfl rfl rfl
theorem dX9_bits_18 : decode cX9_bits 18 = .ok (.iload_n 2, 1) := dq28 bw_cX9_bits_0 18 rfl rfl
theorem dX9_bits_19 : decode cX9_bits 19 = .ok (.iaload, 1) := dq46 bw_cX9_bits_0 19 rfl rfl
theorem dX9_bits_20 : decode cX9_bits 20 = .ok (.ishl, 1) := dq120 bw_cX9_bits_0 20 rfl rfl
theorem dX9_bits_21 : decode cX9_bits 21 = .ok (.ior, 1) := dq128 bw_cX9_bits_0 21 rfl rfl
theorem dX9_bits_22 : decode cX9_bits 22 = .ok (.istore_n 1, 1) := dq60 bw_cX9_bits_0 22 rfl rfl
theorem dX9_bits_23 : decode cX9_bits 23 = .ok (.iinc 2 1, 3) := dq132 bw_cX9_bits_0 23 rfl rfl rfl
theorem bw_cX9_bits_1 : dq_w cX9_bits 24 [2, 1, 167, 255, 234, 27, 172] = true := by decide +kernel
theorem dX9_bits_26 : decode cX9_bits 26 = .ok (.goto (-22), 3) := dq167 bw_cX9_bits_1 2 rfl rfl rfl
theorem dX9_bits_29 : decode cX9_bits 29 = .ok (.iload_n 1, 1) := dq27 bw_cX9_bits_1 5 rfl rfl
theorem dX9_bits_30 : decode cX9_bits 30 = .ok (.ireturn, 1) := dq172 bw_cX9_bits_1 6 rfl rfl
theorem bw_cX11_tour_0 : dq_w cX11_tour 0 [42, 180, 0, 10, 180, 0, 94, 61, 42, 180, 0, 10, 3, 181, 0, 94, 27, 155, 0, 8, 27, 5, 161, 0, 6, 16, 156] = true := by decide +kernel
theorem dX11_tour_0 : decode cX11_tour 0 = .ok (.aload_n 0, 1) := dq42 bw_cX11_tour_0 0 rfl rfl
theorem dX11_tour_1 : decode cX11_tour 1 = .ok (.getfield 10, 3) := dq180 bw_cX11_tour_0 1 rfl rfl rfl
theorem dX11_tour_4 : decode cX11_tour 4 = .ok (.getfield 94, 3) := dq180 bw_cX11_tour_0 4 rfl rfl rfl
theorem dX11_tour_7 : decode cX11_tour 7 = .ok (.istore_n 2, 1) := dq61 bw_cX11_tour_0 7 rfl rfl
theorem dX11_tour_8 : decode cX11_tour 8 = .ok (.aload_n 0, 1) := dq42 bw_cX11_tour_0 8 rfl rfl
theorem dX11_tour_9 : decode cX11_tour 9 = .ok (.getfield 10, 3) := dq180 bw_cX11_tour_0 9 rfl rfl rfl
theorem dX11_tour_12 : decode cX11_tour 12 = .ok (.iconst 0, 1) := dq3 bw_cX11_tour_0 12 rfl rfl
theorem dX11_tour_13 : decode cX11_tour 13 = .ok (.putfield 94, 3) := dq181 bw_cX11_tour_0 13 rfl rfl rfl
theorem dX11_tour_16 : decode cX11_tour 16 = .ok (.iload_n 1, 1) := dq27 bw_cX11_tour_0 16 rfl rfl
theorem dX11_tour_17 : decode cX11_tour 17 = .ok (.ifCond .lt 8, 3) := dq155 bw_cX11_tour_0 17 rfl rfl rfl
theorem dX11_tour_20 : decode cX11_tour 20 = .ok (.iload_n 1, 1) := dq27 bw_cX11_tour_0 20 rfl rfl
theorem dX11_tour_21 : decode cX11_tour 21 = .ok (.iconst 2, 1) := dq5 bw_cX11_tour_0 21 rfl rfl
theorem dX11_tour_22 : decode cX11_tour 22 = .ok (.if_icmp .lt 6, 3) := dq161 bw_cX11_tour_0 22 rfl rfl rfl
theorem bw_cX11_tour_1 : dq_w cX11_tour 24 [6, 16, 156, 172, 42, 180, 0, 19, 42, 180, 0, 10, 180, 0, 204, 28, 184, 0, 208, 62, 29, 155, 0, 7, 2, 29, 100] = true := by decide +kernel
theorem dX11_tour_25 : decode cX11_tour 25 = .ok (.bipush (-100), 2) := dq16 bw_cX11_tour_1 1 rfl rfl rfl
theorem dX11_tour_27 : decode cX11_tour 27 = .ok (.ireturn, 1) := dq172 bw_cX11_tour_1 3 rfl rfl
theorem dX11_tour_28 : decode cX11_tour 28 = .ok (.aload_n 0, 1) := dq42 bw_cX11_tour_1 4 rfl rfl
theorem dX11_tour_29 : decode cX11_tour 29 = .ok (.getfield 19, 3) := dq180 bw_cX11_tour_1 5 rfl rfl rfl
theorem dX11_tour_32 : decode cX11_tour 32 = .ok (.aload_n 0, 1) := dq42 bw_cX11_tour_1 8 rfl rfl
theorem dX11_tour_33 : decode cX11_tour 33 = .ok (.getfield 10, 3) := dq180 bw_cX11_tour_1 9 rfl rfl rfl
theorem dX11_tour_36 : decode cX11_tour 36 = .ok (.getfield 204, 3) := dq180 bw_cX11_tour_1 12 rfl rfl rfl
theorem dX11_tour_39 : decode cX11_tour 39 = .ok (.iload_n 2, 1) := dq28 bw_cX11_tour_1 15 rfl rfl
theorem dX11_tour_40 : decode cX11_tour 40 = .ok (.invokestatic 208, 3) := dq184 bw_cX11_tour_1 16 rfl rfl rfl
theorem dX11_tour_43 : decode cX11_tour 43 = .ok (.istore_n 3, 1) := dq62 bw_cX11_tour_1 19 rfl rfl
theorem dX11_tour_44 : decode cX11_tour 44 = .ok (.iload_n 3, 1) := dq29 bw_cX11_tour_1 20 rfl rfl
theorem dX11_tour_45 : decode cX11_tour 45 = .ok (.ifCond .lt 7, 3) := dq155 bw_cX11_tour_1 21 rfl rfl rfl
theorem bw_cX11_tour_2 : dq_w cX11_tour 48 [2, 29, 100, 172, 42, 180, 0, 49, 27, 50, 58, 4, 25, 4, 42, 180, 0, 10, 180, 0, 204, 28, 182, 0, 212, 25, 4] = true := by decide +kernel
theorem dX11_tour_48 : decode cX11_tour 48 = .ok (.iconst (-1), 1) := dq2 bw_cX11_tour_2 0 rfl rfl
theorem dX11_tour_49 : decode cX11_tour 49 = .ok (.iload_n 3, 1) := dq29 bw_cX11_tour_2 1 rfl rfl
theorem dX11_tour_50 : decode cX11_tour 50 = .ok (.isub, 1) := dq100 bw_cX11_tour_2 2 rfl rfl
theorem dX11_tour_51 : decode cX11_tour 51 = .ok (.ireturn, 1) := dq172 bw_cX11_tour_2 3 rfl rfl
theorem dX11_tour_52 : decode cX11_tour 52 = .ok (.aload_n 0, 1) := dq42 bw_cX11_tour_2 4 rfl rfl
theorem dX11_tour_53 : decode cX11_tour 53 = .ok (.getfield 49, 3) := dq180 bw_cX11_tour_2 5 rfl rfl rfl
theorem dX11_tour_56 : decode cX11_tour 56 = .ok (.iload_n 1, 1) := dq27 bw_cX11_tour_2 8 rfl rfl
theorem dX11_tour_57 : decode cX11_tour 57 = .ok (.aaload, 1) := dq50 bw_cX11_tour_2 9 rfl rfl
theorem dX11_tour_58 : decode cX11_tour 58 = .ok (.astore 4, 2) := dq58 bw_cX11_tour_2 10 rfl rfl
theorem dX11_tour_60 : decode cX11_tour 60 = .ok (.aload 4, 2) := dq25 bw_cX11_tour_2 12 rfl rfl
theorem dX11_tour_62 : decode cX11_tour 62 = .ok (.aload_n 0, 1) := dq42 bw_cX11_tour_2 14 rfl rfl
theorem dX11_tour_63 : decode cX11_tour 63 = .ok (.getfield 10, 3) := dq180 bw_cX11_tour_2 15 rfl rfl rfl
theorem dX11_tour_66 : decode cX11_tour 66 = .ok (.getfield 204, 3) := dq180 bw_cX11_tour_2 18 rfl rfl rfl
theorem dX11_tour_69 : decode cX11_tour 69 = .ok (.iload_n 2, 1) := dq28 bw_cX11_tour_2 21 rfl rfl
theorem dX11_tour_70 : decode cX11_tour 70 = .ok (.invokevirtual 212, 3) := dq182 bw_cX11_tour_2 22 rfl rfl rfl
theorem bw_cX11_tour_3 : dq_w cX11_tour 72 [212, 25, 4, 42, 180, 0, 19, 182, 0, 216, 54, 5, 42, 180, 0, 26, 25, 4, 180, 0, 219, 25, 4, 180, 0, 222, 46] = true := by decide +kernel
theorem dX11_tour_73 : decode cX11_tour 73 = .ok (.aload 4, 2) := dq25 bw_cX11_tour_3 1 rfl rfl
theorem dX11_tour_75 : decode cX11_tour 75 = .ok (.aload_n 0, 1) := dq42 bw_cX11_tour_3 3 rfl rfl
theorem dX11_tour_76 : decode cX11_tour 76 = .ok (.getfield 19, 3) := dq180 bw_cX11_tour_3 4 rfl rfl rfl
theorem dX11_tour_79 : decode cX11_tour 79 = .ok (.invokevirtual 216, 3) := dq182 bw_cX11_tour_3 7 rfl rfl rfl
theorem dX11_tour_82 : decode cX11_tour 82 = .ok (.istore 5, 2) := dq54 bw_cX11_tour_3 10 rfl rfl
theorem dX11_tour_84 : decode cX11_tour 84 = .ok (.aload_n 0, 1) := dq42 bw_cX11_tour_3 12 rfl rfl
theorem dX11_tour_85 : decode cX11_tour 85 = .ok (.getfield 26, 3) := dq180 bw_cX11_tour_3 13 rfl rfl rfl
theorem dX11_tour_88 : decode cX11_tour 88 = .ok (.aload 4, 2) := dq25 bw_cX11_tour_3 16 rfl rfl
theorem dX11_tour_90 : decode cX11_tour 90 = .ok (.getfield 219, 3) := dq180 bw_cX11_tour_3 18 rfl rfl rfl
theorem dX11_tour_93 : decode cX11_tour 93 = .ok (.aload 4, 2) := dq25 bw_cX11_tour_3 21 rfl rfl
theorem dX11_tour_95 : decode cX11_tour 95 = .ok (.getfield 222, 3) := dq180 bw_cX11_tour_3 23 rfl rfl rfl
theorem bw_cX11_tour_4 : dq_w cX11_tour 96 [0, 222, 46, 182, 0, 224, 42, 180, 0, 26, 25, 4, 182, 0, 227, 182, 0, 231, 21, 5, 172] = true := by decide +kernel
theorem dX11_tour_98 : decode cX11_tour 98 = .ok (.iaload, 1) := dq46 bw_cX11_tour_4 2 rfl rfl
theorem dX11_tour_99 : decode cX11_tour 99 = .ok (.invokevirtual 224, 3) := dq182 bw_cX11_tour_4 3 rfl rfl rfl
theorem dX11_tour_102 : decode cX11_tour 102 = .ok (.aload_n 0, 1) := dq42 bw_cX11_tour_4 6 rfl rfl
theorem dX11_tour_103 : decode cX11_tour 103 = .ok (.getfield 26, 3) := dq180 bw_cX11_tour_4 7 rfl rfl rfl
theorem dX11_tour_106 : decode cX11_tour 106 = .ok (.aload 4, 2) := dq25 bw_cX11_tour_4 10 rfl rfl
theorem dX11_tour_108 : decode cX11_tour 108 = .ok (.invokevirtual 227, 3) := dq182 bw_cX11_tour_4 12 rfl rfl rfl
theorem dX11_tour_111 : decode cX11_tour 111 = .ok (.invokevirtual 231, 3) := dq182 bw_cX11_tour_4 15 rfl rfl rfl
theorem dX11_tour_114 : decode cX11_tour 114 = .ok (.iload 5, 2) := dq21 bw_cX11_tour_4 18 rfl rfl
theorem dX11_tour_116 : decode cX11_tour 116 = .ok (.ireturn, 1) := dq172 bw_cX11_tour_4 20 rfl rfl
theorem bw_cX6_copyFrom_0 : dq_w cX6_copyFrom 0 [42, 43, 180, 0, 9, 181, 0, 9, 42, 43, 180, 0, 15, 181, 0, 15, 3, 61, 28, 16, 14, 162, 0, 21, 42, 180, 0] = true := by decide +kernel
theorem dX6_copyFrom_0 : decode cX6_copyFrom 0 = .ok (.aload_n 0, 1) := dq42 bw_cX6_copyFrom_0 0 rfl rfl
theorem dX6_copyFrom_1 : decode cX6_copyFrom 1 = .ok (.aload_n 1, 1) := dq43 bw_cX6_copyFrom_0 1 rfl rfl
theorem dX6_copyFrom_2 : decode cX6_copyFrom 2 = .ok (.getfield 9, 3) := dq180 bw_cX6_copyFrom_0 2 rfl rfl rfl
theorem dX6_copyFrom_5 : decode cX6_copyFrom 5 = .ok (.putfield 9, 3) := dq181 bw_cX6_copyFrom_0 5 rfl rfl rfl
theorem dX6_copyFrom_8 : decode cX6_copyFrom 8 = .ok (.aload_n 0, 1) := dq42 bw_cX6_copyFrom_0 8 rfl rfl
theorem dX6_copyFrom_9 : decode cX6_copyFrom 9 = .ok (.aload_n 1, 1) := dq43 bw_cX6_copyFrom_0 9 rfl rfl
theorem dX6_copyFrom_10 : decode cX6_copyFrom 10 = .ok (.getfield 15, 3) := dq180 bw_cX6_copyFrom_0 10 rfl rfl rfl
theorem dX6_copyFrom_13 : decode cX6_copyFrom 13 = .ok (.putfield 15, 3) := dq181 bw_cX6_copyFrom_0 13 rfl rfl rfl
theorem dX6_copyFrom_16 : decode cX6_copyFrom 16 = .ok (.iconst 0, 1) := dq3 bw_cX6_copyFrom_0 16 rfl rfl
theorem dX6_copyFrom_17 : decode cX6_copyFrom 17 = .ok (.istore_n 2, 1) := dq61 bw_cX6_copyFrom_0 17 rfl rfl
theorem dX6_copyFrom_18 : decode cX6_copyFrom 18 = .ok (.iload_n 2, 1) := dq28 bw_cX6_copyFrom_0 18 rfl rfl
theorem dX6_copyFrom_19 : decode cX6_copyFrom 19 = .ok (.bipush 14, 2) := dq16 bw_cX6_copyFrom_0 19 rfl rfl rfl
theorem dX6_copyFrom_21 : decode cX6_copyFrom 21 = .ok (.if_icmp .ge 21, 3) := dq162 bw_cX6_copyFrom_0 21 rfl rfl rfl
theorem bw_cX6_copyFrom_1 : dq_w cX6_copyFrom 24 [42, 180, 0, 18, 28, 43, 180, 0, 18, 28, 46, 79, 132, 2, 1, 167, 255, 235, 177] = true := by decide +kernel
theorem dX6_copyFrom_24 : decode cX6_copyFrom 24 = .ok (.aload_n 0, 1) := dq42 bw_cX6_copyFrom_1 0 rfl rfl
theorem dX6_copyFrom_25 : decode cX6_copyFrom 25 = .ok (.getfield 18, 3) := dq180 bw_cX6_copyFrom_1 1 rfl rfl rfl
theorem dX6_copyFrom_28 : decode cX6_copyFrom 28 = .ok (.iload_n 2, 1) := dq28 bw_cX6_copyFrom_1 4 rfl rfl
theorem dX6_copyFrom_29 : decode cX6_copyFrom 29 = .ok (.aload_n 1, 1) := dq43 bw_cX6_copyFrom_1 5 rfl rfl
theorem dX6_copyFrom_30 : decode cX6_copyFrom 30 = .ok (.getfield 18, 3) := dq180 bw_cX6_copyFrom_1 6 rfl rfl rfl
theorem dX6_copyFrom_33 : decode cX6_copyFrom 33 = .ok (.iload_n 2, 1) := dq28 bw_cX6_copyFrom_1 9 rfl rfl
theorem dX6_copyFrom_34 : decode cX6_copyFrom 34 = .ok (.iaload, 1) := dq46 bw_cX6_copyFrom_1 10 rfl rfl
theorem dX6_copyFrom_35 : decode cX6_copyFrom 35 = .ok (.iastore, 1) := dq79 bw_cX6_copyFrom_1 11 rfl rfl
theorem dX6_copyFrom_36 : decode cX6_copyFrom 36 = .ok (.iinc 2 1, 3) := dq132 bw_cX6_copyFrom_1 12 rfl rfl rfl
theorem dX6_copyFrom_39 : decode cX6_copyFrom 39 = .ok (.goto (-21), 3) := dq167 bw_cX6_copyFrom_1 15 rfl rfl rfl
theorem dX6_copyFrom_42 : decode cX6_copyFrom 42 = .ok (.return_, 1) := dq177 bw_cX6_copyFrom_1 18 rfl rfl
theorem bw_cX11_look_0 : dq_w cX11_look 0 [27, 155, 0, 8, 27, 5, 161, 0, 5, 2, 172, 42, 180, 0, 49, 27, 50, 77, 44, 180, 0, 234, 154, 0, 6, 16, 253] = true := by decide +kernel
theorem dX11_look_0 : decode cX11_look 0 = .ok (.iload_n 1, 1) := dq27 bw_cX11_look_0 0 rfl rfl
theorem dX11_look_1 : decode cX11_look 1 = .ok (.ifCond .lt 8, 3) := dq155 bw_cX11_look_0 1 rfl rfl rfl
theorem dX11_look_4 : decode cX11_look 4 = .ok (.iload_n 1, 1) := dq27 bw_cX11_look_0 4 rfl rfl
theorem dX11_look_5 : decode cX11_look 5 = .ok (.iconst 2, 1) := dq5 bw_cX11_look_0 5 rfl rfl
theorem dX11_look_6 : decode cX11_look 6 = .ok (.if_icmp .lt 5, 3) := dq161 bw_cX11_look_0 6 rfl rfl rfl
theorem dX11_look_9 : decode cX11_look 9 = .ok (.iconst (-1), 1) := dq2 bw_cX11_look_0 9 rfl rfl
theorem dX11_look_10 : decode cX11_look 10 = .ok (.ireturn, 1) := dq172 bw_cX11_look_0 10 rfl rfl
theorem dX11_look_11 : decode cX11_look 11 = .ok (.aload_n 0, 1) := dq42 bw_cX11_look_0 11 rfl rfl
theorem dX11_look_12 : decode cX11_look 12 = .ok (.getfield 49, 3) := dq180 bw_cX11_look_0 12 rfl rfl rfl
theorem dX11_look_15 : decode cX11_look 15 = .ok (.iload_n 1, 1) := dq27 bw_cX11_look_0 15 rfl rfl
theorem dX11_look_16 : decode cX11_look 16 = .ok (.aaload, 1) := dq50 bw_cX11_look_0 16 rfl rfl
theorem dX11_look_17 : decode cX11_look 17 = .ok (.astore_n 2, 1) := dq77 bw_cX11_look_0 17 rfl rfl
theorem dX11_look_18 : decode cX11_look 18 = .ok (.aload_n 2, 1) := dq44 bw_cX11_look_0 18 rfl rfl
theorem dX11_look_19 : decode cX11_look 19 = .ok (.getfield 234, 3) := dq180 bw_cX11_look_0 19 rfl rfl rfl
theorem dX11_look_22 : decode cX11_look 22 = .ok (.ifCond .ne 6, 3) := dq154 bw_cX11_look_0 22 rfl rfl rfl
theorem bw_cX11_look_1 : dq_w cX11_look 24 [6, 16, 253, 172, 42, 180, 0, 37, 42, 180, 0, 33, 182, 0, 238, 42, 180, 0, 37, 44, 180, 0, 242, 181, 0, 245, 3] = true := by decide +kernel
theorem dX11_look_25 : decode cX11_look 25 = .ok (.bipush (-3), 2) := dq16 bw_cX11_look_1 1 rfl rfl rfl
theorem dX11_look_27 : decode cX11_look 27 = .ok (.ireturn, 1) := dq172 bw_cX11_look_1 3 rfl rfl
theorem dX11_look_28 : decode cX11_look 28 = .ok (.aload_n 0, 1) := dq42 bw_cX11_look_1 4 rfl rfl
theorem dX11_look_29 : decode cX11_look 29 = .ok (.getfield 37, 3) := dq180 bw_cX11_look_1 5 rfl rfl rfl
theorem dX11_look_32 : decode cX11_look 32 = .ok (.aload_n 0, 1) := dq42 bw_cX11_look_1 8 rfl rfl
theorem dX11_look_33 : decode cX11_look 33 = .ok (.getfield 33, 3) := dq180 bw_cX11_look_1 9 rfl rfl rfl
theorem dX11_look_36 : decode cX11_look 36 = .ok (.invokevirtual 238, 3) := dq182 bw_cX11_look_1 12 rfl rfl rfl
theorem dX11_look_39 : decode cX11_look 39 = .ok (.aload_n 0, 1) := dq42 bw_cX11_look_1 15 rfl rfl
theorem dX11_look_40 : decode cX11_look 40 = .ok (.getfield 37, 3) := dq180 bw_cX11_look_1 16 rfl rfl rfl
theorem dX11_look_43 : decode cX11_look 43 = .ok (.aload_n 2, 1) := dq44 bw_cX11_look_1 19 rfl rfl
theorem dX11_look_44 : decode cX11_look 44 = .ok (.getfield 242, 3) := dq180 bw_cX11_look_1 20 rfl rfl rfl
theorem dX11_look_47 : decode cX11_look 47 = .ok (.putfield 245, 3) := dq181 bw_cX11_look_1 23 rfl rfl rfl
theorem bw_cX11_look_2 : dq_w cX11_look 48 [0, 245, 3, 62, 3, 54, 4, 3, 54, 5, 3, 54, 6, 21, 6, 44, 180, 0, 222, 162, 0, 73, 21, 5, 154, 0, 68] = true := by decide +kernel
theorem dX11_look_50 : decode cX11_look 50 = .ok (.iconst 0, 1) := dq3 bw_cX11_look_2 2 rfl rfl
theorem dX11_look_51 : decode cX11_look 51 = .ok (.istore_n 3, 1) := dq62 bw_cX11_look_2 3 rfl rfl
theorem dX11_look_52 : decode cX11_look 52 = .ok (.iconst 0, 1) := dq3 bw_cX11_look_2 4 rfl rfl
theorem dX11_look_53 : decode cX11_look 53 = .ok (.istore 4, 2) := dq54 bw_cX11_look_2 5 rfl rfl
theorem dX11_look_55 : decode cX11_look 55 = .ok (.iconst 0, 1) := dq3 bw_cX11_look_2 7 rfl rfl
theorem dX11_look_56 : decode cX11_look 56 = .ok (.istore 5, 2) := dq54 bw_cX11_look_2 8 rfl rfl
theorem dX11_look_58 : decode cX11_look 58 = .ok (.iconst 0, 1) := dq3 bw_cX11_look_2 10 rfl rfl
theorem dX11_look_59 : decode cX11_look 59 = .ok (.istore 6, 2) := dq54 bw_cX11_look_2 11 rfl rfl
theorem dX11_look_61 : decode cX11_look 61 = .ok (.iload 6, 2) := dq21 bw_cX11_look_2 13 rfl rfl
theorem dX11_look_63 : decode cX11_look 63 = .ok (.aload_n 2, 1) := dq44 bw_cX11_look_2 15 rfl rfl
theorem dX11_look_64 : decode cX11_look 64 = .ok (.getfield 222, 3) := dq180 bw_cX11_look_2 16 rfl rfl rfl
theorem dX11_look_67 : decode cX11_look 67 = .ok (.if_icmp .ge 73, 3) := dq162 bw_cX11_look_2 19 rfl rfl rfl
theorem dX11_look_70 : decode cX11_look 70 = .ok (.iload 5, 2) := dq21 bw_cX11_look_2 22 rfl rfl
theorem bw_cX11_look_3 : dq_w cX11_look 72 [154, 0, 68, 44, 180, 0, 247, 21, 6, 46, 54, 7, 42, 180, 0, 37, 42, 180, 0, 19, 21, 7, 182, 0, 182, 54, 5] = true := by decide +kernel
theorem dX11_look_72 : decode cX11_look 72 = .ok (.ifCond .ne 68, 3) := dq154 bw_cX11_look_3 0 rfl rfl rfl
theorem dX11_look_75 : decode cX11_look 75 = .ok (.aload_n 2, 1) := dq44 bw_cX11_look_3 3 rfl rfl
theorem dX11_look_76 : decode cX11_look 76 = .ok (.getfield 247, 3) := dq180 bw_cX11_look_3 4 rfl rfl rfl
theorem dX11_look_79 : decode cX11_look 79 = .ok (.iload 6, 2) := dq21 bw_cX11_look_3 7 rfl rfl
theorem dX11_look_81 : decode cX11_look 81 = .ok (.iaload, 1) := dq46 bw_cX11_look_3 9 rfl rfl
theorem dX11_look_82 : decode cX11_look 82 = .ok (.istore 7, 2) := dq54 bw_cX11_look_3 10 rfl rfl
theorem dX11_look_84 : decode cX11_look 84 = .ok (.aload_n 0, 1) := dq42 bw_cX11_look_3 12 rfl rfl
theorem dX11_look_85 : decode cX11_look 85 = .ok (.getfield 37, 3) := dq180 bw_cX11_look_3 13 rfl rfl rfl
theorem dX11_look_88 : decode cX11_look 88 = .ok (.aload_n 0, 1) := dq42 bw_cX11_look_3 16 rfl rfl
theorem dX11_look_89 : decode cX11_look 89 = .ok (.getfield 19, 3) := dq180 bw_cX11_look_3 17 rfl rfl rfl
theorem dX11_look_92 : decode cX11_look 92 = .ok (.iload 7, 2) := dq21 bw_cX11_look_3 20 rfl rfl
theorem dX11_look_94 : decode cX11_look 94 = .ok (.invokevirtual 182, 3) := dq182 bw_cX11_look_3 22 rfl rfl rfl
theorem bw_cX11_look_4 : dq_w cX11_look 96 [182, 54, 5, 21, 5, 154, 0, 33, 42, 180, 0, 37, 42, 180, 0, 19, 21, 7, 182, 0, 190, 87, 29, 42, 180, 0, 19] = true := by decide +kernel
theorem dX11_look_97 : decode cX11_look 97 = .ok (.istore 5, 2) := dq54 bw_cX11_look_4 1 rfl rfl
theorem dX11_look_99 : decode cX11_look 99 = .ok (.iload 5, 2) := dq21 bw_cX11_look_4 3 rfl rfl
theorem dX11_look_101 : decode cX11_look 101 = .ok (.ifCond .ne 33, 3) := dq154 bw_cX11_look_4 5 rfl rfl rfl
theorem dX11_look_104 : decode cX11_look 104 = .ok (.aload_n 0, 1) := dq42 bw_cX11_look_4 8 rfl rfl
theorem dX11_look_105 : decode cX11_look 105 = .ok (.getfield 37, 3) := dq180 bw_cX11_look_4 9 rfl rfl rfl
theorem dX11_look_108 : decode cX11_look 108 = .ok (.aload_n 0, 1) := dq42 bw_cX11_look_4 12 rfl rfl
theorem dX11_look_109 : decode cX11_look 109 = .ok (.getfield 19, 3) := dq180 bw_cX11_look_4 13 rfl rfl rfl
theorem dX11_look_112 : decode cX11_look 112 = .ok (.iload 7, 2) := dq21 bw_cX11_look_4 16 rfl rfl
theorem dX11_look_114 : decode cX11_look 114 = .ok (.invokevirtual 190, 3) := dq182 bw_cX11_look_4 18 rfl rfl rfl
theorem dX11_look_117 : decode cX11_look 117 = .ok (.pop, 1) := dq87 bw_cX11_look_4 21 rfl rfl
theorem dX11_look_118 : decode cX11_look 118 = .ok (.iload_n 3, 1) := dq29 bw_cX11_look_4 22 rfl rfl
theorem dX11_look_119 : decode cX11_look 119 = .ok (.aload_n 0, 1) := dq42 bw_cX11_look_4 23 rfl rfl
theorem bw_cX11_look_5 : dq_w cX11_look 120 [180, 0, 19, 180, 0, 131, 21, 7, 46, 96, 62, 132, 4, 1, 132, 6, 1, 167, 255, 180, 42, 180, 0, 26, 21, 5, 182] = true := by decide +kernel
theorem dX11_look_120 : decode cX11_look 120 = .ok (.getfield 19, 3) := dq180 bw_cX11_look_5 0 rfl rfl rfl
theorem dX11_look_123 : decode cX11_look 123 = .ok (.getfield 131, 3) := dq180 bw_cX11_look_5 3 rfl rfl rfl
theorem dX11_look_126 : decode cX11_look 126 = .ok (.iload 7, 2) := dq21 bw_cX11_look_5 6 rfl rfl
theorem dX11_look_128 : decode cX11_look 128 = .ok (.iaload, 1) := dq46 bw_cX11_look_5 8 rfl rfl
theorem dX11_look_129 : decode cX11_look 129 = .ok (.iadd, 1) := dq96 bw_cX11_look_5 9 rfl rfl
theorem dX11_look_130 : decode cX11_look 130 = .ok (.istore_n 3, 1) := dq62 bw_cX11_look_5 10 rfl rfl
theorem dX11_look_131 : decode cX11_look 131 = .ok (.iinc 4 1, 3) := dq132 bw_cX11_look_5 11 rfl rfl rfl
theorem dX11_look_134 : decode cX11_look 134 = .ok (.iinc 6 1, 3) := dq132 bw_cX11_look_5 14 rfl rfl rfl
theorem dX11_look_137 : decode cX11_look 137 = .ok (.goto (-76), 3) := dq167 bw_cX11_look_5 17 rfl rfl rfl
theorem dX11_look_140 : decode cX11_look 140 = .ok (.aload_n 0, 1) := dq42 bw_cX11_look_5 20 rfl rfl
theorem dX11_look_141 : decode cX11_look 141 = .ok (.getfield 26, 3) := dq180 bw_cX11_look_5 21 rfl rfl rfl
theorem bw_cX11_look_6 : dq_w cX11_look 144 [21, 5, 182, 0, 224, 42, 180, 0, 26, 42, 180, 0, 37, 180, 0, 193, 42, 180, 0, 33, 180, 0, 193, 100, 182, 0, 231] = true := by decide +kernel
theorem dX11_look_144 : decode cX11_look 144 = .ok (.iload 5, 2) := dq21 bw_cX11_look_6 0 rfl rfl
theorem dX11_look_146 : decode cX11_look 146 = .ok (.invokevirtual 224, 3) := dq182 bw_cX11_look_6 2 rfl rfl rfl
theorem dX11_look_149 : decode cX11_look 149 = .ok (.aload_n 0, 1) := dq42 bw_cX11_look_6 5 rfl rfl
theorem dX11_look_150 : decode cX11_look 150 = .ok (.getfield 26, 3) := dq180 bw_cX11_look_6 6 rfl rfl rfl
theorem dX11_look_153 : decode cX11_look 153 = .ok (.aload_n 0, 1) := dq42 bw_cX11_look_6 9 rfl rfl
theorem dX11_look_154 : decode cX11_look 154 = .ok (.getfield 37, 3) := dq180 bw_cX11_look_6 10 rfl rfl rfl
theorem dX11_look_157 : decode cX11_look 157 = .ok (.getfield 193, 3) := dq180 bw_cX11_look_6 13 rfl rfl rfl
theorem dX11_look_160 : decode cX11_look 160 = .ok (.aload_n 0, 1) := dq42 bw_cX11_look_6 16 rfl rfl
theorem dX11_look_161 : decode cX11_look 161 = .ok (.getfield 33, 3) := dq180 bw_cX11_look_6 17 rfl rfl rfl
theorem dX11_look_164 : decode cX11_look 164 = .ok (.getfield 193, 3) := dq180 bw_cX11_look_6 20 rfl rfl rfl
theorem dX11_look_167 : decode cX11_look 167 = .ok (.isub, 1) := dq100 bw_cX11_look_6 23 rfl rfl
theorem bw_cX11_look_7 : dq_w cX11_look 168 [182, 0, 231, 42, 180, 0, 26, 29, 182, 0, 231, 21, 5, 154, 0, 8, 16, 254, 167, 0, 5, 21, 4, 172] = true := by decide +kernel
theorem dX11_look_168 : decode cX11_look 168 = .ok (.invokevirtual 231, 3) := dq182 bw_cX11_look_7 0 rfl rfl rfl
theorem dX11_look_171 : decode cX11_look 171 = .ok (.aload_n 0, 1) := dq42 bw_cX11_look_7 3 rfl rfl
theorem dX11_look_172 : decode cX11_look 172 = .ok (.getfield 26, 3) := dq180 bw_cX11_look_7 4 rfl rfl rfl
theorem dX11_look_175 : decode cX11_look 175 = .ok (.iload_n 3, 1) := dq29 bw_cX11_look_7 7 rfl rfl
theorem dX11_look_176 : decode cX11_look 176 = .ok (.invokevirtual 231, 3) := dq182 bw_cX11_look_7 8 rfl rfl rfl
theorem dX11_look_179 : decode cX11_look 179 = .ok (.iload 5, 2) := dq21 bw_cX11_look_7 11 rfl rfl
theorem dX11_look_181 : decode cX11_look 181 = .ok (.ifCond .ne 8, 3) := dq154 bw_cX11_look_7 13 rfl rfl rfl
theorem dX11_look_184 : decode cX11_look 184 = .ok (.bipush (-2), 2) := dq16 bw_cX11_look_7 16 rfl rfl rfl
theorem dX11_look_186 : decode cX11_look 186 = .ok (.goto 5, 3) := dq167 bw_cX11_look_7 18 rfl rfl rfl
theorem dX11_look_189 : decode cX11_look 189 = .ok (.iload 4, 2) := dq21 bw_cX11_look_7 21 rfl rfl
theorem dX11_look_191 : decode cX11_look 191 = .ok (.ireturn, 1) := dq172 bw_cX11_look_7 23 rfl rfl
theorem bw_cX11_scheduleBoth_0 : dq_w cX11_scheduleBoth 0 [42, 180, 0, 49, 3, 50, 180, 0, 234, 153, 0, 15, 42, 180, 0, 49, 4, 50, 180, 0, 234, 154, 0, 5, 3, 172, 42] = true := by decide +kernel
theorem dX11_scheduleBoth_0 : decode cX11_scheduleBoth 0 = .ok (.aload_n 0, 1) := dq42 bw_cX11_scheduleBoth_0 0 rfl rfl
theorem dX11_scheduleBoth_1 : decode cX11_scheduleBoth 1 = .ok (.getfield 49, 3) := dq180 bw_cX11_scheduleBoth_0 1 rfl rfl rfl
theorem dX11_scheduleBoth_4 : decode cX11_scheduleBoth 4 = .ok (.iconst 0, 1) := dq3 bw_cX11_scheduleBoth_0 4 rfl rfl
theorem dX11_scheduleBoth_5 : decode cX11_scheduleBoth 5 = .ok (.aaload, 1) := dq50 bw_cX11_scheduleBoth_0 5 rfl rfl
theorem dX11_scheduleBoth_6 : decode cX11_scheduleBoth 6 = .ok (.getfield 234, 3) := dq180 bw_cX11_scheduleBoth_0 6 rfl rfl rfl
theorem dX11_scheduleBoth_9 : decode cX11_scheduleBoth 9 = .ok (.ifCond .eq 15, 3) := dq153 bw_cX11_scheduleBoth_0 9 rfl rfl rfl
theorem dX11_scheduleBoth_12 : decode cX11_scheduleBoth 12 = .ok (.aload_n 0, 1) := dq42 bw_cX11_scheduleBoth_0 12 rfl rfl
theorem dX11_scheduleBoth_13 : decode cX11_scheduleBoth 13 = .ok (.getfield 49, 3) := dq180 bw_cX11_scheduleBoth_0 13 rfl rfl rfl
theorem dX11_scheduleBoth_16 : decode cX11_scheduleBoth 16 = .ok (.iconst 1, 1) := dq4 bw_cX11_scheduleBoth_0 16 rfl rfl
theorem dX11_scheduleBoth_17 : decode cX11_scheduleBoth 17 = .ok (.aaload, 1) := dq50 bw_cX11_scheduleBoth_0 17 rfl rfl
theorem dX11_scheduleBoth_18 : decode cX11_scheduleBoth 18 = .ok (.getfield 234, 3) := dq180 bw_cX11_scheduleBoth_0 18 rfl rfl rfl
theorem dX11_scheduleBoth_21 : decode cX11_scheduleBoth 21 = .ok (.ifCond .ne 5, 3) := dq154 bw_cX11_scheduleBoth_0 21 rfl rfl rfl
theorem bw_cX11_scheduleBoth_1 : dq_w cX11_scheduleBoth 24 [3, 172, 42, 180, 0, 49, 3, 50, 42, 180, 0, 19, 182, 0, 216, 87, 42, 180, 0, 49, 4, 50, 42, 180, 0, 19, 182] = true := by decide +kernel
theorem dX11_scheduleBoth_24 : decode cX11_scheduleBoth 24 = .ok (.iconst 0, 1) := dq3 bw_cX11_scheduleBoth_1 0 rfl rfl
theorem dX11_scheduleBoth_25 : decode cX11_scheduleBoth 25 = .ok (.ireturn, 1) := dq172 bw_cX11_scheduleBoth_1 1 rfl rfl
theorem dX11_scheduleBoth_26 : decode cX11_scheduleBoth 26 = .ok (.aload_n 0, 1) := dq42 bw_cX11_scheduleBoth_1 2 rfl rfl
theorem dX11_scheduleBoth_27 : decode cX11_scheduleBoth 27 = .ok (.getfield 49, 3) := dq180 bw_cX11_scheduleBoth_1 3 rfl rfl rfl
theorem dX11_scheduleBoth_30 : decode cX11_scheduleBoth 30 = .ok (.iconst 0, 1) := dq3 bw_cX11_scheduleBoth_1 6 rfl rfl
theorem dX11_scheduleBoth_31 : decode cX11_scheduleBoth 31 = .ok (.aaload, 1) := dq50 bw_cX11_scheduleBoth_1 7 rfl rfl
theorem dX11_scheduleBoth_32 : decode cX11_scheduleBoth 32 = .ok (.aload_n 0, 1) := dq42 bw_cX11_scheduleBoth_1 8 rfl rfl
theorem dX11_scheduleBoth_33 : decode cX11_scheduleBoth 33 = .ok (.getfield 19, 3) := dq180 bw_cX11_scheduleBoth_1 9 rfl rfl rfl
theorem dX11_scheduleBoth_36 : decode cX11_scheduleBoth 36 = .ok (.invokevirtual 216, 3) := dq182 bw_cX11_scheduleBoth_1 12 rfl rfl rfl
theorem dX11_scheduleBoth_39 : decode cX11_scheduleBoth 39 = .ok (.pop, 1) := dq87 bw_cX11_scheduleBoth_1 15 rfl rfl
theorem dX11_scheduleBoth_40 : decode cX11_scheduleBoth 40 = .ok (.aload_n 0, 1) := dq42 bw_cX11_scheduleBoth_1 16 rfl rfl
theorem dX11_scheduleBoth_41 : decode cX11_scheduleBoth 41 = .ok (.getfield 49, 3) := dq180 bw_cX11_scheduleBoth_1 17 rfl rfl rfl
theorem dX11_scheduleBoth_44 : decode cX11_scheduleBoth 44 = .ok (.iconst 1, 1) := dq4 bw_cX11_scheduleBoth_1 20 rfl rfl
theorem dX11_scheduleBoth_45 : decode cX11_scheduleBoth 45 = .ok (.aaload, 1) := dq50 bw_cX11_scheduleBoth_1 21 rfl rfl
theorem dX11_scheduleBoth_46 : decode cX11_scheduleBoth 46 = .ok (.aload_n 0, 1) := dq42 bw_cX11_scheduleBoth_1 22 rfl rfl
theorem dX11_scheduleBoth_47 : decode cX11_scheduleBoth 47 = .ok (.getfield 19, 3) := dq180 bw_cX11_scheduleBoth_1 23 rfl rfl rfl
theorem bw_cX11_scheduleBoth_2 : dq_w cX11_scheduleBoth 48 [0, 19, 182, 0, 216, 87, 4, 172] = true := by decide +kernel
theorem dX11_scheduleBoth_50 : decode cX11_scheduleBoth 50 = .ok (.invokevirtual 216, 3) := dq182 bw_cX11_scheduleBoth_2 2 rfl rfl rfl
theorem dX11_scheduleBoth_53 : decode cX11_scheduleBoth 53 = .ok (.pop, 1) := dq87 bw_cX11_scheduleBoth_2 5 rfl rfl
theorem dX11_scheduleBoth_54 : decode cX11_scheduleBoth 54 = .ok (.iconst 1, 1) := dq4 bw_cX11_scheduleBoth_2 6 rfl rfl
theorem dX11_scheduleBoth_55 : decode cX11_scheduleBoth 55 = .ok (.ireturn, 1) := dq172 bw_cX11_scheduleBoth_2 7 rfl rfl
theorem bw_cX9_minuteOfBoth_0 : dq_w cX9_minuteOfBoth 0 [29, 154, 0, 7, 3, 167, 0, 12, 21, 4, 44, 180, 0, 29, 29, 46, 96, 54, 5, 29, 44, 180, 0, 19, 160, 0, 8] = true := by decide +kernel
theorem dX9_minuteOfBoth_0 : decode cX9_minuteOfBoth 0 = .ok (.iload_n 3, 1) := dq29 bw_cX9_minuteOfBoth_0 0 rfl rfl
theorem dX9_minuteOfBoth_1 : decode cX9_minuteOfBoth 1 = .ok (.ifCond .ne 7, 3) := dq154 bw_cX9_minuteOfBoth_0 1 rfl rfl rfl
theorem dX9_minuteOfBoth_4 : decode cX9_minuteOfBoth 4 = .ok (.iconst 0, 1) := dq3 bw_cX9_minuteOfBoth_0 4 rfl rfl
theorem dX9_minuteOfBoth_5 : decode cX9_minuteOfBoth 5 = .ok (.goto 12, 3) := dq167 bw_cX9_minuteOfBoth_0 5 rfl rfl rfl
theorem dX9_minuteOfBoth_8 : decode cX9_minuteOfBoth 8 = .ok (.iload 4, 2) := dq21 bw_cX9_minuteOfBoth_0 8 rfl rfl
theorem dX9_minuteOfBoth_10 : decode cX9_minuteOfBoth 10 = .ok (.aload_n 2, 1) := dq44 bw_cX9_minuteOfBoth_0 10 rfl rfl
theorem dX9_minuteOfBoth_11 : decode cX9_minuteOfBoth 11 = .ok (.getfield 29, 3) := dq180 bw_cX9_minuteOfBoth_0 11 rfl rfl rfl
theorem dX9_minuteOfBoth_14 : decode cX9_minuteOfBoth 14 = .ok (.iload_n 3, 1) := dq29 bw_cX9_minuteOfBoth_0 14 rfl rfl
theorem dX9_minuteOfBoth_15 : decode cX9_minuteOfBoth 15 = .ok (.iaload, 1) := dq46 bw_cX9_minuteOfBoth_0 15 rfl rfl
theorem dX9_minuteOfBoth_16 : decode cX9_minuteOfBoth 16 = .ok (.iadd, 1) := dq96 bw_cX9_minuteOfBoth_0 16 rfl rfl
theorem dX9_minuteOfBoth_17 : decode cX9_minuteOfBoth 17 = .ok (.istore 5, 2) := dq54 bw_cX9_minuteOfBoth_0 17 rfl rfl
theorem dX9_minuteOfBoth_19 : decode cX9_minuteOfBoth 19 = .ok (.iload_n 3, 1) := dq29 bw_cX9_minuteOfBoth_0 19 rfl rfl
theorem dX9_minuteOfBoth_20 : decode cX9_minuteOfBoth 20 = .ok (.aload_n 2, 1) := dq44 bw_cX9_minuteOfBoth_0 20 rfl rfl
theorem dX9_minuteOfBoth_21 : decode cX9_minuteOfBoth 21 = .ok (.getfield 19, 3) := dq180 bw_cX9_minuteOfBoth_0 21 rfl rfl rfl
theorem bw_cX9_minuteOfBoth_1 : dq_w cX9_minuteOfBoth 24 [160, 0, 8, 18, 52, 167, 0, 12, 21, 4, 44, 180, 0, 29, 29, 46, 96, 54, 6, 27, 42, 180, 0, 19, 160, 0, 8] = true := by decide +kernel
theorem dX9_minuteOfBoth_24 : decode cX9_minuteOfBoth 24 = .ok (.if_icmp .ne 8, 3) := dq160 bw_cX9_minuteOfBoth_1 0 rfl rfl rfl
theorem dX9_minuteOfBoth_27 : decode cX9_minuteOfBoth 27 = .ok (.ldc 52, 2) := dq18 bw_cX9_minuteOfBoth_1 3 rfl rfl
theorem dX9_minuteOfBoth_29 : decode cX9_minuteOfBoth 29 = .ok (.goto 12, 3) := dq167 bw_cX9_minuteOfBoth_1 5 rfl rfl rfl
theorem dX9_minuteOfBoth_32 : decode cX9_minuteOfBoth 32 = .ok (.iload 4, 2) := dq21 bw_cX9_minuteOfBoth_1 8 rfl rfl
theorem dX9_minuteOfBoth_34 : decode cX9_minuteOfBoth 34 = .ok (.aload_n 2, 1) := dq44 bw_cX9_minuteOfBoth_1 10 rfl rfl
theorem dX9_minuteOfBoth_35 : decode cX9_minuteOfBoth 35 = .ok (.getfield 29, 3) := dq180 bw_cX9_minuteOfBoth_1 11 rfl rfl rfl
theorem dX9_minuteOfBoth_38 : decode cX9_minuteOfBoth 38 = .ok (.iload_n 3, 1) := dq29 bw_cX9_minuteOfBoth_1 14 rfl rfl
theorem dX9_minuteOfBoth_39 : decode cX9_minuteOfBoth 39 = .ok (.iaload, 1) := dq46 bw_cX9_minuteOfBoth_1 15 rfl rfl
theorem dX9_minuteOfBoth_40 : decode cX9_minuteOfBoth 40 = .ok (.iadd, 1) := dq96 bw_cX9_minuteOfBoth_1 16 rfl rfl
theorem dX9_minuteOfBoth_41 : decode cX9_minuteOfBoth 41 = .ok (.istore 6, 2) := dq54 bw_cX9_minuteOfBoth_1 17 rfl rfl
theorem dX9_minuteOfBoth_43 : decode cX9_minuteOfBoth 43 = .ok (.iload_n 1, 1) := dq27 bw_cX9_minuteOfBoth_1 19 rfl rfl
theorem dX9_minuteOfBoth_44 : decode cX9_minuteOfBoth 44 = .ok (.aload_n 0, 1) := dq42 bw_cX9_minuteOfBoth_1 20 rfl rfl
theorem dX9_minuteOfBoth_45 : decode cX9_minuteOfBoth 45 = .ok (.getfield 19, 3) := dq180 bw_cX9_minuteOfBoth_1 21 rfl rfl rfl
theorem bw_cX9_minuteOfBoth_2 : dq_w cX9_minuteOfBoth 48 [160, 0, 8, 18, 52, 167, 0, 9, 42, 180, 0, 29, 27, 46, 54, 7, 42, 180, 0, 29, 27, 46, 21, 5, 184, 0, 57] = true := by decide +kernel
theorem dX9_minuteOfBoth_48 : decode cX9_minuteOfBoth 48 = .ok (.if_icmp .ne 8, 3) := dq160 bw_cX9_minuteOfBoth_2 0 rfl rfl rfl
theorem dX9_minuteOfBoth_51 : decode cX9_minuteOfBoth 51 = .ok (.ldc 52, 2) := dq18 bw_cX9_minuteOfBoth_2 3 rfl rfl
theorem dX9_minuteOfBoth_53 : decode cX9_minuteOfBoth 53 = .ok (.goto 9, 3) := dq167 bw_cX9_minuteOfBoth_2 5 rfl rfl rfl
theorem dX9_minuteOfBoth_56 : decode cX9_minuteOfBoth 56 = .ok (.aload_n 0, 1) := dq42 bw_cX9_minuteOfBoth_2 8 rfl rfl
theorem dX9_minuteOfBoth_57 : decode cX9_minuteOfBoth 57 = .ok (.getfield 29, 3) := dq180 bw_cX9_minuteOfBoth_2 9 rfl rfl rfl
theorem dX9_minuteOfBoth_60 : decode cX9_minuteOfBoth 60 = .ok (.iload_n 1, 1) := dq27 bw_cX9_minuteOfBoth_2 12 rfl rfl
theorem dX9_minuteOfBoth_61 : decode cX9_minuteOfBoth 61 = .ok (.iaload, 1) := dq46 bw_cX9_minuteOfBoth_2 13 rfl rfl
theorem dX9_minuteOfBoth_62 : decode cX9_minuteOfBoth 62 = .ok (.istore 7, 2) := dq54 bw_cX9_minuteOfBoth_2 14 rfl rfl
theorem dX9_minuteOfBoth_64 : decode cX9_minuteOfBoth 64 = .ok (.aload_n 0, 1) := dq42 bw_cX9_minuteOfBoth_2 16 rfl rfl
theorem dX9_minuteOfBoth_65 : decode cX9_minuteOfBoth 65 = .ok (.getfield 29, 3) := dq180 bw_cX9_minuteOfBoth_2 17 rfl rfl rfl
theorem dX9_minuteOfBoth_68 : decode cX9_minuteOfBoth 68 = .ok (.iload_n 1, 1) := dq27 bw_cX9_minuteOfBoth_2 20 rfl rfl
theorem dX9_minuteOfBoth_69 : decode cX9_minuteOfBoth 69 = .ok (.iaload, 1) := dq46 bw_cX9_minuteOfBoth_2 21 rfl rfl
theorem dX9_minuteOfBoth_70 : decode cX9_minuteOfBoth 70 = .ok (.iload 5, 2) := dq21 bw_cX9_minuteOfBoth_2 22 rfl rfl
theorem bw_cX9_minuteOfBoth_3 : dq_w cX9_minuteOfBoth 72 [184, 0, 57, 54, 8, 21, 8, 21, 7, 21, 6, 184, 0, 62, 163, 0, 8, 21, 8, 167, 0, 5, 18, 52, 172] = true := by decide +kernel
theorem dX9_minuteOfBoth_72 : decode cX9_minuteOfBoth 72 = .ok (.invokestatic 57, 3) := dq184 bw_cX9_minuteOfBoth_3 0 rfl rfl rfl
theorem dX9_minuteOfBoth_75 : decode cX9_minuteOfBoth 75 = .ok (.istore 8, 2) := dq54 bw_cX9_minuteOfBoth_3 3 rfl rfl
theorem dX9_minuteOfBoth_77 : decode cX9_minuteOfBoth 77 = .ok (.iload 8, 2) := dq21 bw_cX9_minuteOfBoth_3 5 rfl rfl
theorem dX9_minuteOfBoth_79 : decode cX9_minuteOfBoth 79 = .ok (.iload 7, 2) := dq21 bw_cX9_minuteOfBoth_3 7 rfl rfl
theorem dX9_minuteOfBoth_81 : decode cX9_minuteOfBoth 81 = .ok (.iload 6, 2) := dq21 bw_cX9_minuteOfBoth_3 9 rfl rfl
theorem dX9_minuteOfBoth_83 : decode cX9_minuteOfBoth 83 = .ok (.invokestatic 62, 3) := dq184 bw_cX9_minuteOfBoth_3 11 rfl rfl rfl
theorem dX9_minuteOfBoth_86 : decode cX9_minuteOfBoth 86 = .ok (.if_icmp .gt 8, 3) := dq163 bw_cX9_minuteOfBoth_3 14 rfl rfl rfl
theorem dX9_minuteOfBoth_89 : decode cX9_minuteOfBoth 89 = .ok (.iload 8, 2) := dq21 bw_cX9_minuteOfBoth_3 17 rfl rfl
theorem dX9_minuteOfBoth_91 : decode cX9_minuteOfBoth 91 = .ok (.goto 5, 3) := dq167 bw_cX9_minuteOfBoth_3 19 rfl rfl rfl
theorem dX9_minuteOfBoth_94 : decode cX9_minuteOfBoth 94 = .ok (.ldc 52, 2) := dq18 bw_cX9_minuteOfBoth_3 22 rfl rfl
theorem bw_cX9_minuteOfBoth_4 : dq_w cX9_minuteOfBoth 96 [172] = true := by decide +kernel
theorem dX9_minuteOfBoth_96 : decode cX9_minuteOfBoth 96 = .ok (.ireturn, 1) := dq172 bw_cX9_minuteOfBoth_4 0 rfl rfl
theorem bw_cX9_firstMeeting_0 : dq_w cX9_firstMeeting 0 [18, 52, 62, 3, 54, 4, 3, 54, 5, 21, 5, 42, 180, 0, 19, 163, 0, 79, 3, 54, 6, 21, 6, 43, 180, 0, 19] = true := by decide +kernel
theorem dX9_firstMeeting_0 : decode cX9_firstMeeting 0 = .ok (.ldc 52, 2) := dq18 bw_cX9_firstMeeting_0 0 rfl rfl
theorem dX9_firstMeeting_2 : decode cX9_firstMeeting 2 = .ok (.istore_n 3, 1) := dq62 bw_cX9_firstMeeting_0 2 rfl rfl
theorem dX9_firstMeeting_3 : decode cX9_firstMeeting 3 = .ok (.iconst 0, 1) := dq3 bw_cX9_firstMeeting_0 3 rfl rfl
theorem dX9_firstMeeting_4 : decode cX9_firstMeeting 4 = .ok (.istore 4, 2) := dq54 bw_cX9_firstMeeting_0 4 rfl rfl
theorem dX9_firstMeeting_6 : decode cX9_firstMeeting 6 = .ok (.iconst 0, 1) := dq3 bw_cX9_firstMeeting_0 6 rfl rfl
theorem dX9_firstMeeting_7 : decode cX9_firstMeeting 7 = .ok (.istore 5, 2) := dq54 bw_cX9_firstMeeting_0 7 rfl rfl
theorem dX9_firstMeeting_9 : decode cX9_firstMeeting 9 = .ok (.iload 5, 2) := dq21 bw_cX9_firstMeeting_0 9 rfl rfl
theorem dX9_firstMeeting_11 : decode cX9_firstMeeting 11 = .ok (.aload_n 0, 1) := dq42 bw_cX9_firstMeeting_0 11 rfl rfl
theorem dX9_firstMeeting_12 : decode cX9_firstMeeting 12 = .ok (.getfield 19, 3) := dq180 bw_cX9_firstMeeting_0 12 rfl rfl rfl
theorem dX9_firstMeeting_15 : decode cX9_firstMeeting 15 = .ok (.if_icmp .gt 79, 3) := dq163 bw_cX9_firstMeeting_0 15 rfl rfl rfl
theorem dX9_firstMeeting_18 : decode cX9_firstMeeting 18 = .ok (.iconst 0, 1) := dq3 bw_cX9_firstMeeting_0 18 rfl rfl
theorem dX9_firstMeeting_19 : decode cX9_firstMeeting 19 = .ok (.istore 6, 2) := dq54 bw_cX9_firstMeeting_0 19 rfl rfl
theorem dX9_firstMeeting_21 : decode cX9_firstMeeting 21 = .ok (.iload 6, 2) := dq21 bw_cX9_firstMeeting_0 21 rfl rfl
theorem dX9_firstMeeting_23 : decode cX9_firstMeeting 23 = .ok (.aload_n 1, 1) := dq43 bw_cX9_firstMeeting_0 23 rfl rfl
theorem bw_cX9_firstMeeting_1 : dq_w cX9_firstMeeting 24 [180, 0, 19, 163, 0, 61, 42, 180, 0, 26, 21, 5, 46, 43, 180, 0, 26, 21, 6, 46, 160, 0, 16, 42, 21, 5, 43] = true := by decide +kernel
theorem dX9_firstMeeting_24 : decode cX9_firstMeeting 24 = .ok (.getfield 19, 3) := dq180 bw_cX9_firstMeeting_1 0 rfl rfl rfl
theorem dX9_firstMeeting_27 : decode cX9_firstMeeting 27 = .ok (.if_icmp .gt 61, 3) := dq163 bw_cX9_firstMeeting_1 3 rfl rfl rfl
theorem dX9_firstMeeting_30 : decode cX9_firstMeeting 30 = .ok (.aload_n 0, 1) := dq42 bw_cX9_firstMeeting_1 6 rfl rfl
theorem dX9_firstMeeting_31 : decode cX9_firstMeeting 31 = .ok (.getfield 26, 3) := dq180 bw_cX9_firstMeeting_1 7 rfl rfl rfl
theorem dX9_firstMeeting_34 : decode cX9_firstMeeting 34 = .ok (.iload 5, 2) := dq21 bw_cX9_firstMeeting_1 10 rfl rfl
theorem dX9_firstMeeting_36 : decode cX9_firstMeeting 36 = .ok (.iaload, 1) := dq46 bw_cX9_firstMeeting_1 12 rfl rfl
theorem dX9_firstMeeting_37 : decode cX9_firstMeeting 37 = .ok (.aload_n 1, 1) := dq43 bw_cX9_firstMeeting_1 13 rfl rfl
theorem dX9_firstMeeting_38 : decode cX9_firstMeeting 38 = .ok (.getfield 26, 3) := dq180 bw_cX9_firstMeeting_1 14 rfl rfl rfl
theorem dX9_firstMeeting_41 : decode cX9_firstMeeting 41 = .ok (.iload 6, 2) := dq21 bw_cX9_firstMeeting_1 17 rfl rfl
theorem dX9_firstMeeting_43 : decode cX9_firstMeeting 43 = .ok (.iaload, 1) := dq46 bw_cX9_firstMeeting_1 19 rfl rfl
theorem dX9_firstMeeting_44 : decode cX9_firstMeeting 44 = .ok (.if_icmp .ne 16, 3) := dq160 bw_cX9_firstMeeting_1 20 rfl rfl rfl
theorem dX9_firstMeeting_47 : decode cX9_firstMeeting 47 = .ok (.aload_n 0, 1) := dq42 bw_cX9_firstMeeting_1 23 rfl rfl
theorem bw_cX9_firstMeeting_2 : dq_w cX9_firstMeeting 48 [21, 5, 43, 21, 6, 28, 184, 0, 53, 167, 0, 5, 18, 52, 54, 7, 21, 7, 29, 162, 0, 15, 21, 7, 62, 42, 180] = true := by decide +kernel
theorem dX9_firstMeeting_48 : decode cX9_firstMeeting 48 = .ok (.iload 5, 2) := dq21 bw_cX9_firstMeeting_2 0 rfl rfl
theorem dX9_firstMeeting_50 : decode cX9_firstMeeting 50 = .ok (.aload_n 1, 1) := dq43 bw_cX9_firstMeeting_2 2 rfl rfl
theorem dX9_firstMeeting_51 : decode cX9_firstMeeting 51 = .ok (.iload 6, 2) := dq21 bw_cX9_firstMeeting_2 3 rfl rfl
theorem dX9_firstMeeting_53 : decode cX9_firstMeeting 53 = .ok (.iload_n 2, 1) := dq28 bw_cX9_firstMeeting_2 5 rfl rfl
theorem dX9_firstMeeting_54 : decode cX9_firstMeeting 54 = .ok (.invokestatic 53, 3) := dq184 bw_cX9_firstMeeting_2 6 rfl rfl rfl
theorem dX9_firstMeeting_57 : decode cX9_firstMeeting 57 = .ok (.goto 5, 3) := dq167 bw_cX9_firstMeeting_2 9 rfl rfl rfl
theorem dX9_firstMeeting_60 : decode cX9_firstMeeting 60 = .ok (.ldc 52, 2) := dq18 bw_cX9_firstMeeting_2 12 rfl rfl
theorem dX9_firstMeeting_62 : decode cX9_firstMeeting 62 = .ok (.istore 7, 2) := dq54 bw_cX9_firstMeeting_2 14 rfl rfl
theorem dX9_firstMeeting_64 : decode cX9_firstMeeting 64 = .ok (.iload 7, 2) := dq21 bw_cX9_firstMeeting_2 16 rfl rfl
theorem dX9_firstMeeting_66 : decode cX9_firstMeeting 66 = .ok (.iload_n 3, 1) := dq29 bw_cX9_firstMeeting_2 18 rfl rfl
theorem dX9_firstMeeting_67 : decode cX9_firstMeeting 67 = .ok (.if_icmp .ge 15, 3) := dq162 bw_cX9_firstMeeting_2 19 rfl rfl rfl
theorem dX9_firstMeeting_70 : decode cX9_firstMeeting 70 = .ok (.iload 7, 2) := dq21 bw_cX9_firstMeeting_2 22 rfl rfl
theorem bw_cX9_firstMeeting_3 : dq_w cX9_firstMeeting 72 [62, 42, 180, 0, 26, 21, 5, 46, 54, 4, 132, 6, 1, 167, 255, 192, 132, 5, 1, 167, 255, 174, 29, 18, 52, 162, 0] = true := by decide +kernel
theorem dX9_firstMeeting_72 : decode cX9_firstMeeting 72 = .ok (.istore_n 3, 1) := dq62 bw_cX9_firstMeeting_3 0 rfl rfl
theorem dX9_firstMeeting_73 : decode cX9_firstMeeting 73 = .ok (.aload_n 0, 1) := dq42 bw_cX9_firstMeeting_3 1 rfl rfl
theorem dX9_firstMeeting_74 : decode cX9_firstMeeting 74 = .ok (.getfield 26, 3) := dq180 bw_cX9_firstMeeting_3 2 rfl rfl rfl
theorem dX9_firstMeeting_77 : decode cX9_firstMeeting 77 = .ok (.iload 5, 2) := dq21 bw_cX9_firstMeeting_3 5 rfl rfl
theorem dX9_firstMeeting_79 : decode cX9_firstMeeting 79 = .ok (.iaload, 1) := dq46 bw_cX9_firstMeeting_3 7 rfl rfl
theorem dX9_firstMeeting_80 : decode cX9_firstMeeting 80 = .ok (.istore 4, 2) := dq54 bw_cX9_firstMeeting_3 8 rfl rfl
theorem dX9_firstMeeting_82 : decode cX9_firstMeeting 82 = .ok (.iinc 6 1, 3) := dq132 bw_cX9_firstMeeting_3 10 rfl rfl rfl
theorem dX9_firstMeeting_85 : decode cX9_firstMeeting 85 = .ok (.goto (-64), 3) := dq167 bw_cX9_firstMeeting_3 13 rfl rfl rfl
theorem dX9_firstMeeting_88 : decode cX9_firstMeeting 88 = .ok (.iinc 5 1, 3) := dq132 bw_cX9_firstMeeting_3 16 rfl rfl rfl
theorem dX9_firstMeeting_91 : decode cX9_firstMeeting 91 = .ok (.goto (-82), 3) := dq167 bw_cX9_firstMeeting_3 19 rfl rfl rfl
theorem dX9_firstMeeting_94 : decode cX9_firstMeeting 94 = .ok (.iload_n 3, 1) := dq29 bw_cX9_firstMeeting_3 22 rfl rfl
theorem dX9_firstMeeting_95 : decode cX9_firstMeeting 95 = .ok (.ldc 52, 2) := dq18 bw_cX9_firstMeeting_3 23 rfl rfl
theorem bw_cX9_firstMeeting_4 : dq_w cX9_firstMeeting 96 [52, 162, 0, 12, 29, 7, 120, 21, 4, 128, 167, 0, 4, 2, 172] = true := by decide +kernel
theorem dX9_firstMeeting_97 : decode cX9_firstMeeting 97 = .ok (.if_icmp .ge 12, 3) := dq162 bw_cX9_firstMeeting_4 1 rfl rfl rfl
theorem dX9_firstMeeting_100 : decode cX9_firstMeeting 100 = .ok (.iload_n 3, 1) := dq29 bw_cX9_firstMeeting_4 4 rfl rfl
theorem dX9_firstMeeting_101 : decode cX9_firstMeeting 101 = .ok (.iconst 4, 1) := dq7 bw_cX9_firstMeeting_4 5 rfl rfl
theorem dX9_firstMeeting_102 : decode cX9_firstMeeting 102 = .ok (.ishl, 1) := dq120 bw_cX9_firstMeeting_4 6 rfl rfl
theorem dX9_firstMeeting_103 : decode cX9_firstMeeting 103 = .ok (.iload 4, 2) := dq21 bw_cX9_firstMeeting_4 7 rfl rfl
theorem dX9_firstMeeting_105 : decode cX9_firstMeeting 105 = .ok (.ior, 1) := dq128 bw_cX9_firstMeeting_4 9 rfl rfl
theorem dX9_firstMeeting_106 : decode cX9_firstMeeting 106 = .ok (.goto 4, 3) := dq167 bw_cX9_firstMeeting_4 10 rfl rfl rfl
theorem dX9_firstMeeting_109 : decode cX9_firstMeeting 109 = .ok (.iconst (-1), 1) := dq2 bw_cX9_firstMeeting_4 13 rfl rfl
theorem dX9_firstMeeting_110 : decode cX9_firstMeeting 110 = .ok (.ireturn, 1) := dq172 bw_cX9_firstMeeting_4 14 rfl rfl
theorem bw_cX11_meets_0 : dq_w cX11_meets 0 [27, 155, 0, 9, 27, 16, 99, 164, 0, 5, 2, 172, 42, 182, 0, 249, 154, 0, 6, 16, 253, 172, 42, 180, 0, 49, 3] = true := by decide +kernel
theorem dX11_meets_0 : decode cX11_meets 0 = .ok (.iload_n 1, 1) := dq27 bw_cX11_meets_0 0 rfl rfl
theorem dX11_meets_1 : decode cX11_meets 1 = .ok (.ifCond .lt 9, 3) := dq155 bw_cX11_meets_0 1 rfl rfl rfl
theorem dX11_meets_4 : decode cX11_meets 4 = .ok (.iload_n 1, 1) := dq27 bw_cX11_meets_0 4 rfl rfl
theorem dX11_meets_5 : decode cX11_meets 5 = .ok (.bipush 99, 2) := dq16 bw_cX11_meets_0 5 rfl rfl rfl
theorem dX11_meets_7 : decode cX11_meets 7 = .ok (.if_icmp .le 5, 3) := dq164 bw_cX11_meets_0 7 rfl rfl rfl
theorem dX11_meets_10 : decode cX11_meets 10 = .ok (.iconst (-1), 1) := dq2 bw_cX11_meets_0 10 rfl rfl
theorem dX11_meets_11 : decode cX11_meets 11 = .ok (.ireturn, 1) := dq172 bw_cX11_meets_0 11 rfl rfl
theorem dX11_meets_12 : decode cX11_meets 12 = .ok (.aload_n 0, 1) := dq42 bw_cX11_meets_0 12 rfl rfl
theorem dX11_meets_13 : decode cX11_meets 13 = .ok (.invokevirtual 249, 3) := dq182 bw_cX11_meets_0 13 rfl rfl rfl
theorem dX11_meets_16 : decode cX11_meets 16 = .ok (.ifCond .ne 6, 3) := dq154 bw_cX11_meets_0 16 rfl rfl rfl
theorem dX11_meets_19 : decode cX11_meets 19 = .ok (.bipush (-3), 2) := dq16 bw_cX11_meets_0 19 rfl rfl rfl
theorem dX11_meets_21 : decode cX11_meets 21 = .ok (.ireturn, 1) := dq172 bw_cX11_meets_0 21 rfl rfl
theorem dX11_meets_22 : decode cX11_meets 22 = .ok (.aload_n 0, 1) := dq42 bw_cX11_meets_0 22 rfl rfl
theorem dX11_meets_23 : decode cX11_meets 23 = .ok (.getfield 49, 3) := dq180 bw_cX11_meets_0 23 rfl rfl rfl
theorem bw_cX11_meets_1 : dq_w cX11_meets 24 [0, 49, 3, 50, 42, 180, 0, 49, 4, 50, 27, 184, 0, 253, 61, 28, 156, 0, 6, 16, 254, 172, 42, 180, 0, 26, 28] = true := by decide +kernel
theorem dX11_meets_26 : decode cX11_meets 26 = .ok (.iconst 0, 1) := dq3 bw_cX11_meets_1 2 rfl rfl
theorem dX11_meets_27 : decode cX11_meets 27 = .ok (.aaload, 1) := dq50 bw_cX11_meets_1 3 rfl rfl
theorem dX11_meets_28 : decode cX11_meets 28 = .ok (.aload_n 0, 1) := dq42 bw_cX11_meets_1 4 rfl rfl
theorem dX11_meets_29 : decode cX11_meets 29 = .ok (.getfield 49, 3) := dq180 bw_cX11_meets_1 5 rfl rfl rfl
theorem dX11_meets_32 : decode cX11_meets 32 = .ok (.iconst 1, 1) := dq4 bw_cX11_meets_1 8 rfl rfl
theorem dX11_meets_33 : decode cX11_meets 33 = .ok (.aaload, 1) := dq50 bw_cX11_meets_1 9 rfl rfl
theorem dX11_meets_34 : decode cX11_meets 34 = .ok (.iload_n 1, 1) := dq27 bw_cX11_meets_1 10 rfl rfl
theorem dX11_meets_35 : decode cX11_meets 35 = .ok (.invokestatic 253, 3) := dq184 bw_cX11_meets_1 11 rfl rfl rfl
theorem dX11_meets_38 : decode cX11_meets 38 = .ok (.istore_n 2, 1) := dq61 bw_cX11_meets_1 14 rfl rfl
theorem dX11_meets_39 : decode cX11_meets 39 = .ok (.iload_n 2, 1) := dq28 bw_cX11_meets_1 15 rfl rfl
theorem dX11_meets_40 : decode cX11_meets 40 = .ok (.ifCond .ge 6, 3) := dq156 bw_cX11_meets_1 16 rfl rfl rfl
theorem dX11_meets_43 : decode cX11_meets 43 = .ok (.bipush (-2), 2) := dq16 bw_cX11_meets_1 19 rfl rfl rfl
theorem dX11_meets_45 : decode cX11_meets 45 = .ok (.ireturn, 1) := dq172 bw_cX11_meets_1 21 rfl rfl
theorem dX11_meets_46 : decode cX11_meets 46 = .ok (.aload_n 0, 1) := dq42 bw_cX11_meets_1 22 rfl rfl
theorem dX11_meets_47 : decode cX11_meets 47 = .ok (.getfield 26, 3) := dq180 bw_cX11_meets_1 23 rfl rfl rfl
theorem bw_cX11_meets_2 : dq_w cX11_meets 48 [0, 26, 28, 16, 15, 126, 182, 0, 224, 28, 7, 122, 172] = true := by decide +kernel
theorem dX11_meets_50 : decode cX11_meets 50 = .ok (.iload_n 2, 1) := dq28 bw_cX11_meets_2 2 rfl rfl
theorem dX11_meets_51 : decode cX11_meets 51 = .ok (.bipush 15, 2) := dq16 bw_cX11_meets_2 3 rfl rfl rfl
theorem dX11_meets_53 : decode cX11_meets 53 = .ok (.iand, 1) := dq126 bw_cX11_meets_2 5 rfl rfl
theorem dX11_meets_54 : decode cX11_meets 54 = .ok (.invokevirtual 224, 3) := dq182 bw_cX11_meets_2 6 rfl rfl rfl
theorem dX11_meets_57 : decode cX11_meets 57 = .ok (.iload_n 2, 1) := dq28 bw_cX11_meets_2 9 rfl rfl
theorem dX11_meets_58 : decode cX11_meets 58 = .ok (.iconst 4, 1) := dq7 bw_cX11_meets_2 10 rfl rfl
theorem dX11_meets_59 : decode cX11_meets 59 = .ok (.ishr, 1) := dq122 bw_cX11_meets_2 11 rfl rfl
theorem dX11_meets_60 : decode cX11_meets 60 = .ok (.ireturn, 1) := dq172 bw_cX11_meets_2 12 rfl rfl
theorem bw_cX11_apart_0 : dq_w cX11_apart 0 [42, 182, 0, 249, 154, 0, 6, 16, 253, 172, 3, 60, 27, 16, 99, 163, 0, 30, 42, 180, 0, 49, 3, 50, 42, 180, 0] = true := by decide +kernel
theorem dX11_apart_0 : decode cX11_apart 0 = .ok (.aload_n 0, 1) := dq42 bw_cX11_apart_0 0 rfl rfl
theorem dX11_apart_1 : decode cX11_apart 1 = .ok (.invokevirtual 249, 3) := dq182 bw_cX11_apart_0 1 rfl rfl rfl
theorem dX11_apart_4 : decode cX11_apart 4 = .ok (.ifCond .ne 6, 3) := dq154 bw_cX11_apart_0 4 rfl rfl rfl
theorem dX11_apart_7 : decode cX11_apart 7 = .ok (.bipush (-3), 2) := dq16 bw_cX11_apart_0 7 rfl rfl rfl
theorem dX11_apart_9 : decode cX11_apart 9 = .ok (.ireturn, 1) := dq172 bw_cX11_apart_0 9 rfl rfl
theorem dX11_apart_10 : decode cX11_apart 10 = .ok (.iconst 0, 1) := dq3 bw_cX11_apart_0 10 rfl rfl
theorem dX11_apart_11 : decode cX11_apart 11 = .ok (.istore_n 1, 1) := dq60 bw_cX11_apart_0 11 rfl rfl
theorem dX11_apart_12 : decode cX11_apart 12 = .ok (.iload_n 1, 1) := dq27 bw_cX11_apart_0 12 rfl rfl
theorem dX11_apart_13 : decode cX11_apart 13 = .ok (.bipush 99, 2) := dq16 bw_cX11_apart_0 13 rfl rfl rfl
theorem dX11_apart_15 : decode cX11_apart 15 = .ok (.if_icmp .gt 30, 3) := dq163 bw_cX11_apart_0 15 rfl rfl rfl
theorem dX11_apart_18 : decode cX11_apart 18 = .ok (.aload_n 0, 1) := dq42 bw_cX11_apart_0 18 rfl rfl
theorem dX11_apart_19 : decode cX11_apart 19 = .ok (.getfield 49, 3) := dq180 bw_cX11_apart_0 19 rfl rfl rfl
theorem dX11_apart_22 : decode cX11_apart 22 = .ok (.iconst 0, 1) := dq3 bw_cX11_apart_0 22 rfl rfl
theorem dX11_apart_23 : decode cX11_apart 23 = .ok (.aaload, 1) := dq50 bw_cX11_apart_0 23 rfl rfl
theorem bw_cX11_apart_1 : dq_w cX11_apart 24 [42, 180, 0, 49, 4, 50, 27, 184, 0, 253, 156, 0, 5, 27, 172, 132, 1, 1, 167, 255, 226, 16, 254, 172] = true := by decide +kernel
theorem dX11_apart_24 : decode cX11_apart 24 = .ok (.aload_n 0, 1) := dq42 bw_cX11_apart_1 0 rfl rfl
theorem dX11_apart_25 : decode cX11_apart 25 = .ok (.getfield 49, 3) := dq180 bw_cX11_apart_1 1 rfl rfl rfl
theorem dX11_apart_28 : decode cX11_apart 28 = .ok (.iconst 1, 1) := dq4 bw_cX11_apart_1 4 rfl rfl
theorem dX11_apart_29 : decode cX11_apart 29 = .ok (.aaload, 1) := dq50 bw_cX11_apart_1 5 rfl rfl
theorem dX11_apart_30 : decode cX11_apart 30 = .ok (.iload_n 1, 1) := dq27 bw_cX11_apart_1 6 rfl rfl
theorem dX11_apart_31 : decode cX11_apart 31 = .ok (.invokestatic 253, 3) := dq184 bw_cX11_apart_1 7 rfl rfl rfl
theorem dX11_apart_34 : decode cX11_apart 34 = .ok (.ifCond .ge 5, 3) := dq156 bw_cX11_apart_1 10 rfl rfl rfl
theorem dX11_apart_37 : decode cX11_apart 37 = .ok (.iload_n 1, 1) := dq27 bw_cX11_apart_1 13 rfl rfl
theorem dX11_apart_38 : decode cX11_apart 38 = .ok (.ireturn, 1) := dq172 bw_cX11_apart_1 14 rfl rfl
theorem dX11_apart_39 : decode cX11_apart 39 = .ok (.iinc 1 1, 3) := dq132 bw_cX11_apart_1 15 rfl rfl rfl
theorem dX11_apart_42 : decode cX11_apart 42 = .ok (.goto (-30), 3) := dq167 bw_cX11_apart_1 18 rfl rfl rfl
theorem dX11_apart_45 : decode cX11_apart 45 = .ok (.bipush (-2), 2) := dq16 bw_cX11_apart_1 21 rfl rfl rfl
theorem dX11_apart_47 : decode cX11_apart 47 = .ok (.ireturn, 1) := dq172 bw_cX11_apart_1 23 rfl rfl
theorem bw_cX11_walkersCorner_0 : dq_w cX11_walkersCorner 0 [42, 180, 0, 19, 180, 1, 14, 154, 0, 7, 2, 167, 0, 10, 42, 180, 0, 33, 180, 0, 245, 172] = true := by decide +kernel
theorem dX11_walkersCorner_0 : decode cX11_walkersCorner 0 = .ok (.aload_n 0, 1) := dq42 bw_cX11_walkersCorner_0 0 rfl rfl
theorem dX11_walkersCorner_1 : decode cX11_walkersCorner 1 = .ok (.getfield 19, 3) := dq180 bw_cX11_walkersCorner_0 1 rfl rfl rfl
theorem dX11_walkersCorner_4 : decode cX11_walkersCorner 4 = .ok (.getfield 270, 3) := dq180 bw_cX11_walkersCorner_0 4 rfl rfl rfl
theorem dX11_walkersCorner_7 : decode cX11_walkersCorner 7 = .ok (.ifCond .ne 7, 3) := dq154 bw_cX11_walkersCorner_0 7 rfl rfl rfl
theorem dX11_walkersCorner_10 : decode cX11_walkersCorner 10 = .ok (.iconst (-1), 1) := dq2 bw_cX11_walkersCorner_0 10 rfl rfl
theorem dX11_walkersCorner_11 : decode cX11_walkersCorner 11 = .ok (.goto 10, 3) := dq167 bw_cX11_walkersCorner_0 11 rfl rfl rfl
theorem dX11_walkersCorner_14 : decode cX11_walkersCorner 14 = .ok (.aload_n 0, 1) := dq42 bw_cX11_walkersCorner_0 14 rfl rfl
theorem dX11_walkersCorner_15 : decode cX11_walkersCorner 15 = .ok (.getfield 33, 3) := dq180 bw_cX11_walkersCorner_0 15 rfl rfl rfl
theorem dX11_walkersCorner_18 : decode cX11_walkersCorner 18 = .ok (.getfield 245, 3) := dq180 bw_cX11_walkersCorner_0 18 rfl rfl rfl
theorem dX11_walkersCorner_21 : decode cX11_walkersCorner 21 = .ok (.ireturn, 1) := dq172 bw_cX11_walkersCorner_0 21 rfl rfl
theorem bw_cX6_toNextDay_0 : dq_w cX6_toNextDay 0 [42, 182, 0, 22, 4, 96, 16, 60, 104, 61, 28, 43, 180, 0, 51, 164, 0, 20, 42, 42, 180, 0, 15, 43, 180, 0, 51] = true := by decide +kernel
theorem dX6_toNextDay_0 : decode cX6_toNextDay 0 = .ok (.aload_n 0, 1) := dq42 bw_cX6_toNextDay_0 0 rfl rfl
theorem dX6_toNextDay_1 : decode cX6_toNextDay 1 = .ok (.invokevirtual 22, 3) := dq182 bw_cX6_toNextDay_0 1 rfl rfl rfl
theorem dX6_toNextDay_4 : decode cX6_toNextDay 4 = .ok (.iconst 1, 1) := dq4 bw_cX6_toNextDay_0 4 rfl rfl
theorem dX6_toNextDay_5 : decode cX6_toNextDay 5 = .ok (.iadd, 1) := dq96 bw_cX6_toNextDay_0 5 rfl rfl
theorem dX6_toNextDay_6 : decode cX6_toNextDay 6 = .ok (.bipush 60, 2) := dq16 bw_cX6_toNextDay_0 6 rfl rfl rfl
theorem dX6_toNextDay_8 : decode cX6_toNextDay 8 = .ok (.imul, 1) := dq104 bw_cX6_toNextDay_0 8 rfl rfl
theorem dX6_toNextDay_9 : decode cX6_toNextDay 9 = .ok (.istore_n 2, 1) := dq61 bw_cX6_toNextDay_0 9 rfl rfl
theorem dX6_toNextDay_10 : decode cX6_toNextDay 10 = .ok (.iload_n 2, 1) := dq28 bw_cX6_toNextDay_0 10 rfl rfl
theorem dX6_toNextDay_11 : decode cX6_toNextDay 11 = .ok (.aload_n 1, 1) := dq43 bw_cX6_toNextDay_0 11 rfl rfl
theorem dX6_toNextDay_12 : decode cX6_toNextDay 12 = .ok (.getfield 51, 3) := dq180 bw_cX6_toNextDay_0 12 rfl rfl rfl
theorem dX6_toNextDay_15 : decode cX6_toNextDay 15 = .ok (.if_icmp .le 20, 3) := dq164 bw_cX6_toNextDay_0 15 rfl rfl rfl
theorem dX6_toNextDay_18 : decode cX6_toNextDay 18 = .ok (.aload_n 0, 1) := dq42 bw_cX6_toNextDay_0 18 rfl rfl
theorem dX6_toNextDay_19 : decode cX6_toNextDay 19 = .ok (.aload_n 0, 1) := dq42 bw_cX6_toNextDay_0 19 rfl rfl
theorem dX6_toNextDay_20 : decode cX6_toNextDay 20 = .ok (.getfield 15, 3) := dq180 bw_cX6_toNextDay_0 20 rfl rfl rfl
theorem dX6_toNextDay_23 : decode cX6_toNextDay 23 = .ok (.aload_n 1, 1) := dq43 bw_cX6_toNextDay_0 23 rfl rfl
theorem bw_cX6_toNextDay_1 : dq_w cX6_toNextDay 24 [180, 0, 51, 184, 0, 67, 181, 0, 15, 3, 172, 42, 28, 181, 0, 15, 4, 172] = true := by decide +kernel
theorem dX6_toNextDay_24 : decode cX6_toNextDay 24 = .ok (.getfield 51, 3) := dq180 bw_cX6_toNextDay_1 0 rfl rfl rfl
theorem dX6_toNextDay_27 : decode cX6_toNextDay 27 = .ok (.invokestatic 67, 3) := dq184 bw_cX6_toNextDay_1 3 rfl rfl rfl
theorem dX6_toNextDay_30 : decode cX6_toNextDay 30 = .ok (.putfield 15, 3) := dq181 bw_cX6_toNextDay_1 6 rfl rfl rfl
theorem dX6_toNextDay_33 : decode cX6_toNextDay 33 = .ok (.iconst 0, 1) := dq3 bw_cX6_toNextDay_1 9 rfl rfl
theorem dX6_toNextDay_34 : decode cX6_toNextDay 34 = .ok (.ireturn, 1) := dq172 bw_cX6_toNextDay_1 10 rfl rfl
theorem dX6_toNextDay_35 : decode cX6_toNextDay 35 = .ok (.aload_n 0, 1) := dq42 bw_cX6_toNextDay_1 11 rfl rfl
theorem dX6_toNextDay_36 : decode cX6_toNextDay 36 = .ok (.iload_n 2, 1) := dq28 bw_cX6_toNextDay_1 12 rfl rfl
theorem dX6_toNextDay_37 : decode cX6_toNextDay 37 = .ok (.putfield 15, 3) := dq181 bw_cX6_toNextDay_1 13 rfl rfl rfl
theorem dX6_toNextDay_40 : decode cX6_toNextDay 40 = .ok (.iconst 1, 1) := dq4 bw_cX6_toNextDay_1 16 rfl rfl
theorem dX6_toNextDay_41 : decode cX6_toNextDay 41 = .ok (.ireturn, 1) := dq172 bw_cX6_toNextDay_1 17 rfl rfl
theorem bw_cX6_dearest_0 : dq_w cX6_dearest 0 [2, 61, 3, 62, 29, 43, 180, 0, 57, 162, 0, 52, 28, 2, 159, 0, 18, 43, 180, 0, 60, 29, 46, 43, 180, 0, 60] = true := by decide +kernel
theorem dX6_dearest_0 : decode cX6_dearest 0 = .ok (.iconst (-1), 1) := dq2 bw_cX6_dearest_0 0 rfl rfl
theorem dX6_dearest_1 : decode cX6_dearest 1 = .ok (.istore_n 2, 1) := dq61 bw_cX6_dearest_0 1 rfl rfl
theorem dX6_dearest_2 : decode cX6_dearest 2 = .ok (.iconst 0, 1) := dq3 bw_cX6_dearest_0 2 rfl rfl
theorem dX6_dearest_3 : decode cX6_dearest 3 = .ok (.istore_n 3, 1) := dq62 bw_cX6_dearest_0 3 rfl rfl
theorem dX6_dearest_4 : decode cX6_dearest 4 = .ok (.iload_n 3, 1) := dq29 bw_cX6_dearest_0 4 rfl rfl
theorem dX6_dearest_5 : decode cX6_dearest 5 = .ok (.aload_n 1, 1) := dq43 bw_cX6_dearest_0 5 rfl rfl
theorem dX6_dearest_6 : decode cX6_dearest 6 = .ok (.getfield 57, 3) := dq180 bw_cX6_dearest_0 6 rfl rfl rfl
theorem dX6_dearest_9 : decode cX6_dearest 9 = .ok (.if_icmp .ge 52, 3) := dq162 bw_cX6_dearest_0 9 rfl rfl rfl
theorem dX6_dearest_12 : decode cX6_dearest 12 = .ok (.iload_n 2, 1) := dq28 bw_cX6_dearest_0 12 rfl rfl
theorem dX6_dearest_13 : decode cX6_dearest 13 = .ok (.iconst (-1), 1) := dq2 bw_cX6_dearest_0 13 rfl rfl
theorem dX6_dearest_14 : decode cX6_dearest 14 = .ok (.if_icmp .eq 18, 3) := dq159 bw_cX6_dearest_0 14 rfl rfl rfl
theorem dX6_dearest_17 : decode cX6_dearest 17 = .ok (.aload_n 1, 1) := dq43 bw_cX6_dearest_0 17 rfl rfl
theorem dX6_dearest_18 : decode cX6_dearest 18 = .ok (.getfield 60, 3) := dq180 bw_cX6_dearest_0 18 rfl rfl rfl
theorem dX6_dearest_21 : decode cX6_dearest 21 = .ok (.iload_n 3, 1) := dq29 bw_cX6_dearest_0 21 rfl rfl
theorem dX6_dearest_22 : decode cX6_dearest 22 = .ok (.iaload, 1) := dq46 bw_cX6_dearest_0 22 rfl rfl
theorem dX6_dearest_23 : decode cX6_dearest 23 = .ok (.aload_n 1, 1) := dq43 bw_cX6_dearest_0 23 rfl rfl
theorem bw_cX6_dearest_1 : dq_w cX6_dearest 24 [180, 0, 60, 28, 46, 164, 0, 7, 4, 167, 0, 4, 3, 54, 4, 21, 4, 153, 0, 14, 42, 43, 29, 182, 0, 63, 154] = true := by decide +kernel
theorem dX6_dearest_24 : decode cX6_dearest 24 = .ok (.getfield 60, 3) := dq180 bw_cX6_dearest_1 0 rfl rfl rfl
theorem dX6_dearest_27 : decode cX6_dearest 27 = .ok (.iload_n 2, 1) := dq28 bw_cX6_dearest_1 3 rfl rfl
theorem dX6_dearest_28 : decode cX6_dearest 28 = .ok (.iaload, 1) := dq46 bw_cX6_dearest_1 4 rfl rfl
theorem dX6_dearest_29 : decode cX6_dearest 29 = .ok (.if_icmp .le 7, 3) := dq164 bw_cX6_dearest_1 5 rfl rfl rfl
theorem dX6_dearest_32 : decode cX6_dearest 32 = .ok (.iconst 1, 1) := dq4 bw_cX6_dearest_1 8 rfl rfl
theorem dX6_dearest_33 : decode cX6_dearest 33 = .ok (.goto 4, 3) := dq167 bw_cX6_dearest_1 9 rfl rfl rfl
theorem dX6_dearest_36 : decode cX6_dearest 36 = .ok (.iconst 0, 1) := dq3 bw_cX6_dearest_1 12 rfl rfl
theorem dX6_dearest_37 : decode cX6_dearest 37 = .ok (.istore 4, 2) := dq54 bw_cX6_dearest_1 13 rfl rfl
theorem dX6_dearest_39 : decode cX6_dearest 39 = .ok (.iload 4, 2) := dq21 bw_cX6_dearest_1 15 rfl rfl
theorem dX6_dearest_41 : decode cX6_dearest 41 = .ok (.ifCond .eq 14, 3) := dq153 bw_cX6_dearest_1 17 rfl rfl rfl
theorem dX6_dearest_44 : decode cX6_dearest 44 = .ok (.aload_n 0, 1) := dq42 bw_cX6_dearest_1 20 rfl rfl
theorem dX6_dearest_45 : decode cX6_dearest 45 = .ok (.aload_n 1, 1) := dq43 bw_cX6_dearest_1 21 rfl rfl
theorem dX6_dearest_46 : decode cX6_dearest 46 = .ok (.iload_n 3, 1) := dq29 bw_cX6_dearest_1 22 rfl rfl
theorem dX6_dearest_47 : decode cX6_dearest 47 = .ok (.invokevirtual 63, 3) := dq182 bw_cX6_dearest_1 23 rfl rfl rfl
theorem bw_cX6_dearest_2 : dq_w cX6_dearest 48 [0, 63, 154, 0, 5, 29, 61, 132, 3, 1, 167, 255, 202, 28, 172] = true := by decide +kernel
theorem dX6_dearest_50 : decode cX6_dearest 50 = .ok (.ifCond .ne 5, 3) := dq154 bw_cX6_dearest_2 2 rfl rfl rfl
theorem dX6_dearest_53 : decode cX6_dearest 53 = .ok (.iload_n 3, 1) := dq29 bw_cX6_dearest_2 5 rfl rfl
theorem dX6_dearest_54 : decode cX6_dearest 54 = .ok (.istore_n 2, 1) := dq61 bw_cX6_dearest_2 6 rfl rfl
theorem dX6_dearest_55 : decode cX6_dearest 55 = .ok (.iinc 3 1, 3) := dq132 bw_cX6_dearest_2 7 rfl rfl rfl
theorem dX6_dearest_58 : decode cX6_dearest 58 = .ok (.goto (-54), 3) := dq167 bw_cX6_dearest_2 10 rfl rfl rfl
theorem dX6_dearest_61 : decode cX6_dearest 61 = .ok (.iload_n 2, 1) := dq28 bw_cX6_dearest_2 13 rfl rfl
theorem dX6_dearest_62 : decode cX6_dearest 62 = .ok (.ireturn, 1) := dq172 bw_cX6_dearest_2 14 rfl rfl
theorem bw_cX11_season_0 : dq_w cX11_season 0 [27, 155, 0, 9, 27, 16, 60, 164, 0, 5, 2, 172, 42, 180, 0, 43, 3, 181, 0, 102, 3, 61, 3, 62, 3, 54, 4] = true := by decide +kernel
theorem dX11_season_0 : decode cX11_season 0 = .ok (.iload_n 1, 1) := dq27 bw_cX11_season_0 0 rfl rfl
theorem dX11_season_1 : decode cX11_season 1 = .ok (.ifCond .lt 9, 3) := dq155 bw_cX11_season_0 1 rfl rfl rfl
theorem dX11_season_4 : decode cX11_season 4 = .ok (.iload_n 1, 1) := dq27 bw_cX11_season_0 4 rfl rfl
theorem dX11_season_5 : decode cX11_season 5 = .ok (.bipush 60, 2) := dq16 bw_cX11_season_0 5 rfl rfl rfl
theorem dX11_season_7 : decode cX11_season 7 = .ok (.if_icmp .le 5, 3) := dq164 bw_cX11_season_0 7 rfl rfl rfl
theorem dX11_season_10 : decode cX11_season 10 = .ok (.iconst (-1), 1) := dq2 bw_cX11_season_0 10 rfl rfl
theorem dX11_season_11 : decode cX11_season 11 = .ok (.ireturn, 1) := dq172 bw_cX11_season_0 11 rfl rfl
theorem dX11_season_12 : decode cX11_season 12 = .ok (.aload_n 0, 1) := dq42 bw_cX11_season_0 12 rfl rfl
theorem dX11_season_13 : decode cX11_season 13 = .ok (.getfield 43, 3) := dq180 bw_cX11_season_0 13 rfl rfl rfl
theorem dX11_season_16 : decode cX11_season 16 = .ok (.iconst 0, 1) := dq3 bw_cX11_season_0 16 rfl rfl
theorem dX11_season_17 : decode cX11_season 17 = .ok (.putfield 102, 3) := dq181 bw_cX11_season_0 17 rfl rfl rfl
theorem dX11_season_20 : decode cX11_season 20 = .ok (.iconst 0, 1) := dq3 bw_cX11_season_0 20 rfl rfl
theorem dX11_season_21 : decode cX11_season 21 = .ok (.istore_n 2, 1) := dq61 bw_cX11_season_0 21 rfl rfl
theorem dX11_season_22 : decode cX11_season 22 = .ok (.iconst 0, 1) := dq3 bw_cX11_season_0 22 rfl rfl
theorem dX11_season_23 : decode cX11_season 23 = .ok (.istore_n 3, 1) := dq62 bw_cX11_season_0 23 rfl rfl
theorem bw_cX11_season_1 : dq_w cX11_season 24 [3, 54, 4, 42, 180, 0, 33, 182, 1, 1, 154, 0, 17, 42, 180, 0, 33, 42, 180, 0, 19, 182, 1, 4, 153, 0, 7] = true := by decide +kernel
theorem dX11_season_24 : decode cX11_season 24 = .ok (.iconst 0, 1) := dq3 bw_cX11_season_1 0 rfl rfl
theorem dX11_season_25 : decode cX11_season 25 = .ok (.istore 4, 2) := dq54 bw_cX11_season_1 1 rfl rfl
theorem dX11_season_27 : decode cX11_season 27 = .ok (.aload_n 0, 1) := dq42 bw_cX11_season_1 3 rfl rfl
theorem dX11_season_28 : decode cX11_season 28 = .ok (.getfield 33, 3) := dq180 bw_cX11_season_1 4 rfl rfl rfl
theorem dX11_season_31 : decode cX11_season 31 = .ok (.invokevirtual 257, 3) := dq182 bw_cX11_season_1 7 rfl rfl rfl
theorem dX11_season_34 : decode cX11_season 34 = .ok (.ifCond .ne 17, 3) := dq154 bw_cX11_season_1 10 rfl rfl rfl
theorem dX11_season_37 : decode cX11_season 37 = .ok (.aload_n 0, 1) := dq42 bw_cX11_season_1 13 rfl rfl
theorem dX11_season_38 : decode cX11_season 38 = .ok (.getfield 33, 3) := dq180 bw_cX11_season_1 14 rfl rfl rfl
theorem dX11_season_41 : decode cX11_season 41 = .ok (.aload_n 0, 1) := dq42 bw_cX11_season_1 17 rfl rfl
theorem dX11_season_42 : decode cX11_season 42 = .ok (.getfield 19, 3) := dq180 bw_cX11_season_1 18 rfl rfl rfl
theorem dX11_season_45 : decode cX11_season 45 = .ok (.invokevirtual 260, 3) := dq182 bw_cX11_season_1 21 rfl rfl rfl
theorem bw_cX11_season_2 : dq_w cX11_season 48 [153, 0, 7, 4, 167, 0, 4, 3, 54, 5, 3, 54, 6, 21, 6, 17, 39, 75, 163, 0, 102, 21, 5, 153, 0, 97, 21] = true := by decide +kernel
theorem dX11_season_48 : decode cX11_season 48 = .ok (.ifCond .eq 7, 3) := dq153 bw_cX11_season_2 0 rfl rfl rfl
theorem dX11_season_51 : decode cX11_season 51 = .ok (.iconst 1, 1) := dq4 bw_cX11_season_2 3 rfl rfl
theorem dX11_season_52 : decode cX11_season 52 = .ok (.goto 4, 3) := dq167 bw_cX11_season_2 4 rfl rfl rfl
theorem dX11_season_55 : decode cX11_season 55 = .ok (.iconst 0, 1) := dq3 bw_cX11_season_2 7 rfl rfl
theorem dX11_season_56 : decode cX11_season 56 = .ok (.istore 5, 2) := dq54 bw_cX11_season_2 8 rfl rfl
theorem dX11_season_58 : decode cX11_season 58 = .ok (.iconst 0, 1) := dq3 bw_cX11_season_2 10 rfl rfl
theorem dX11_season_59 : decode cX11_season 59 = .ok (.istore 6, 2) := dq54 bw_cX11_season_2 11 rfl rfl
theorem dX11_season_61 : decode cX11_season 61 = .ok (.iload 6, 2) := dq21 bw_cX11_season_2 13 rfl rfl
theorem dX11_season_63 : decode cX11_season 63 = .ok (.sipush 10059, 3) := dq17 bw_cX11_season_2 15 rfl rfl rfl
theorem dX11_season_66 : decode cX11_season 66 = .ok (.if_icmp .gt 102, 3) := dq163 bw_cX11_season_2 18 rfl rfl rfl
theorem dX11_season_69 : decode cX11_season 69 = .ok (.iload 5, 2) := dq21 bw_cX11_season_2 21 rfl rfl
theorem dX11_season_71 : decode cX11_season 71 = .ok (.ifCond .eq 97, 3) := dq153 bw_cX11_season_2 23 rfl rfl rfl
theorem bw_cX11_season_3 : dq_w cX11_season 72 [0, 97, 21, 4, 27, 162, 0, 91, 42, 180, 0, 33, 182, 1, 1, 153, 0, 17, 42, 180, 0, 33, 42, 180, 0, 19, 182] = true := by decide +kernel
theorem dX11_season_74 : decode cX11_season 74 = .ok (.iload 4, 2) := dq21 bw_cX11_season_3 2 rfl rfl
theorem dX11_season_76 : decode cX11_season 76 = .ok (.iload_n 1, 1) := dq27 bw_cX11_season_3 4 rfl rfl
theorem dX11_season_77 : decode cX11_season 77 = .ok (.if_icmp .ge 91, 3) := dq162 bw_cX11_season_3 5 rfl rfl rfl
theorem dX11_season_80 : decode cX11_season 80 = .ok (.aload_n 0, 1) := dq42 bw_cX11_season_3 8 rfl rfl
theorem dX11_season_81 : decode cX11_season 81 = .ok (.getfield 33, 3) := dq180 bw_cX11_season_3 9 rfl rfl rfl
theorem dX11_season_84 : decode cX11_season 84 = .ok (.invokevirtual 257, 3) := dq182 bw_cX11_season_3 12 rfl rfl rfl
theorem dX11_season_87 : decode cX11_season 87 = .ok (.ifCond .eq 17, 3) := dq153 bw_cX11_season_3 15 rfl rfl rfl
theorem dX11_season_90 : decode cX11_season 90 = .ok (.aload_n 0, 1) := dq42 bw_cX11_season_3 18 rfl rfl
theorem dX11_season_91 : decode cX11_season 91 = .ok (.getfield 33, 3) := dq180 bw_cX11_season_3 19 rfl rfl rfl
theorem dX11_season_94 : decode cX11_season 94 = .ok (.aload_n 0, 1) := dq42 bw_cX11_season_3 22 rfl rfl
theorem dX11_season_95 : decode cX11_season 95 = .ok (.getfield 19, 3) := dq180 bw_cX11_season_3 23 rfl rfl rfl
theorem bw_cX11_season_4 : dq_w cX11_season 96 [0, 19, 182, 1, 8, 167, 0, 4, 2, 54, 7, 21, 7, 2, 160, 0, 22, 132, 4, 1, 42, 180, 0, 33, 42, 180, 0] = true := by decide +kernel
theorem dX11_season_98 : decode cX11_season 98 = .ok (.invokevirtual 264, 3) := dq182 bw_cX11_season_4 2 rfl rfl rfl
theorem dX11_season_101 : decode cX11_season 101 = .ok (.goto 4, 3) := dq167 bw_cX11_season_4 5 rfl rfl rfl
theorem dX11_season_104 : decode cX11_season 104 = .ok (.iconst (-1), 1) := dq2 bw_cX11_season_4 8 rfl rfl
theorem dX11_season_105 : decode cX11_season 105 = .ok (.istore 7, 2) := dq54 bw_cX11_season_4 9 rfl rfl
theorem dX11_season_107 : decode cX11_season 107 = .ok (.iload 7, 2) := dq21 bw_cX11_season_4 11 rfl rfl
theorem dX11_season_109 : decode cX11_season 109 = .ok (.iconst (-1), 1) := dq2 bw_cX11_season_4 13 rfl rfl
theorem dX11_season_110 : decode cX11_season 110 = .ok (.if_icmp .ne 22, 3) := dq160 bw_cX11_season_4 14 rfl rfl rfl
theorem dX11_season_113 : decode cX11_season 113 = .ok (.iinc 4 1, 3) := dq132 bw_cX11_season_4 17 rfl rfl rfl
theorem dX11_season_116 : decode cX11_season 116 = .ok (.aload_n 0, 1) := dq42 bw_cX11_season_4 20 rfl rfl
theorem dX11_season_117 : decode cX11_season 117 = .ok (.getfield 33, 3) := dq180 bw_cX11_season_4 21 rfl rfl rfl
theorem bw_cX11_season_5 : dq_w cX11_season 120 [42, 180, 0, 19, 182, 1, 4, 54, 5, 167, 0, 33, 42, 180, 0, 33, 42, 180, 0, 19, 21, 7, 182, 0, 190, 87, 132] = true := by decide +kernel
theorem dX11_season_120 : decode cX11_season 120 = .ok (.aload_n 0, 1) := dq42 bw_cX11_season_5 0 rfl rfl
theorem dX11_season_121 : decode cX11_season 121 = .ok (.getfield 19, 3) := dq180 bw_cX11_season_5 1 rfl rfl rfl
theorem dX11_season_124 : decode cX11_season 124 = .ok (.invokevirtual 260, 3) := dq182 bw_cX11_season_5 4 rfl rfl rfl
theorem dX11_season_127 : decode cX11_season 127 = .ok (.istore 5, 2) := dq54 bw_cX11_season_5 7 rfl rfl
theorem dX11_season_129 : decode cX11_season 129 = .ok (.goto 33, 3) := dq167 bw_cX11_season_5 9 rfl rfl rfl
theorem dX11_season_132 : decode cX11_season 132 = .ok (.aload_n 0, 1) := dq42 bw_cX11_season_5 12 rfl rfl
theorem dX11_season_133 : decode cX11_season 133 = .ok (.getfield 33, 3) := dq180 bw_cX11_season_5 13 rfl rfl rfl
theorem dX11_season_136 : decode cX11_season 136 = .ok (.aload_n 0, 1) := dq42 bw_cX11_season_5 16 rfl rfl
theorem dX11_season_137 : decode cX11_season 137 = .ok (.getfield 19, 3) := dq180 bw_cX11_season_5 17 rfl rfl rfl
theorem dX11_season_140 : decode cX11_season 140 = .ok (.iload 7, 2) := dq21 bw_cX11_season_5 20 rfl rfl
theorem dX11_season_142 : decode cX11_season 142 = .ok (.invokevirtual 190, 3) := dq182 bw_cX11_season_5 22 rfl rfl rfl
theorem bw_cX11_season_6 : dq_w cX11_season 144 [190, 87, 132, 2, 1, 29, 42, 180, 0, 19, 180, 0, 131, 21, 7, 46, 96, 62, 132, 6, 1, 167, 255, 152, 42, 180, 0] = true := by decide +kernel
theorem dX11_season_145 : decode cX11_season 145 = .ok (.pop, 1) := dq87 bw_cX11_season_6 1 rfl rfl
theorem dX11_season_146 : decode cX11_season 146 = .ok (.iinc 2 1, 3) := dq132 bw_cX11_season_6 2 rfl rfl rfl
theorem dX11_season_149 : decode cX11_season 149 = .ok (.iload_n 3, 1) := dq29 bw_cX11_season_6 5 rfl rfl
theorem dX11_season_150 : decode cX11_season 150 = .ok (.aload_n 0, 1) := dq42 bw_cX11_season_6 6 rfl rfl
theorem dX11_season_151 : decode cX11_season 151 = .ok (.getfield 19, 3) := dq180 bw_cX11_season_6 7 rfl rfl rfl
theorem dX11_season_154 : decode cX11_season 154 = .ok (.getfield 131, 3) := dq180 bw_cX11_season_6 10 rfl rfl rfl
theorem dX11_season_157 : decode cX11_season 157 = .ok (.iload 7, 2) := dq21 bw_cX11_season_6 13 rfl rfl
theorem dX11_season_159 : decode cX11_season 159 = .ok (.iaload, 1) := dq46 bw_cX11_season_6 15 rfl rfl
theorem dX11_season_160 : decode cX11_season 160 = .ok (.iadd, 1) := dq96 bw_cX11_season_6 16 rfl rfl
theorem dX11_season_161 : decode cX11_season 161 = .ok (.istore_n 3, 1) := dq62 bw_cX11_season_6 17 rfl rfl
theorem dX11_season_162 : decode cX11_season 162 = .ok (.iinc 6 1, 3) := dq132 bw_cX11_season_6 18 rfl rfl rfl
theorem dX11_season_165 : decode cX11_season 165 = .ok (.goto (-104), 3) := dq167 bw_cX11_season_6 21 rfl rfl rfl
theorem bw_cX11_season_7 : dq_w cX11_season 168 [42, 180, 0, 26, 29, 182, 0, 224, 42, 180, 0, 26, 42, 182, 1, 11, 182, 0, 231, 28, 172] = true := by decide +kernel
theorem dX11_season_168 : decode cX11_season 168 = .ok (.aload_n 0, 1) := dq42 bw_cX11_season_7 0 rfl rfl
theorem dX11_season_169 : decode cX11_season 169 = .ok (.getfield 26, 3) := dq180 bw_cX11_season_7 1 rfl rfl rfl
theorem dX11_season_172 : decode cX11_season 172 = .ok (.iload_n 3, 1) := dq29 bw_cX11_season_7 4 rfl rfl
theorem dX11_season_173 : decode cX11_season 173 = .ok (.invokevirtual 224, 3) := dq182 bw_cX11_season_7 5 rfl rfl rfl
theorem dX11_season_176 : decode cX11_season 176 = .ok (.aload_n 0, 1) := dq42 bw_cX11_season_7 8 rfl rfl
theorem dX11_season_177 : decode cX11_season 177 = .ok (.getfield 26, 3) := dq180 bw_cX11_season_7 9 rfl rfl rfl
theorem dX11_season_180 : decode cX11_season 180 = .ok (.aload_n 0, 1) := dq42 bw_cX11_season_7 12 rfl rfl
theorem dX11_season_181 : decode cX11_season 181 = .ok (.invokevirtual 267, 3) := dq182 bw_cX11_season_7 13 rfl rfl rfl
theorem dX11_season_184 : decode cX11_season 184 = .ok (.invokevirtual 231, 3) := dq182 bw_cX11_season_7 16 rfl rfl rfl
theorem dX11_season_187 : decode cX11_season 187 = .ok (.iload_n 2, 1) := dq28 bw_cX11_season_7 19 rfl rfl
theorem dX11_season_188 : decode cX11_season 188 = .ok (.ireturn, 1) := dq172 bw_cX11_season_7 20 rfl rfl
theorem bw_cX2_everyHedge_0 : dq_w cX2_everyHedge 0 [4, 42, 180, 0, 15, 120, 4, 100, 172] = true := by decide +kernel
theorem dX2_everyHedge_0 : decode cX2_everyHedge 0 = .ok (.iconst 1, 1) := dq4 bw_cX2_everyHedge_0 0 rfl rfl
theorem dX2_everyHedge_1 : decode cX2_everyHedge 1 = .ok (.aload_n 0, 1) := dq42 bw_cX2_everyHedge_0 1 rfl rfl
theorem dX2_everyHedge_2 : decode cX2_everyHedge 2 = .ok (.getfield 15, 3) := dq180 bw_cX2_everyHedge_0 2 rfl rfl rfl
theorem dX2_everyHedge_5 : decode cX2_everyHedge 5 = .ok (.ishl, 1) := dq120 bw_cX2_everyHedge_0 5 rfl rfl
theorem dX2_everyHedge_6 : decode cX2_everyHedge 6 = .ok (.iconst 1, 1) := dq4 bw_cX2_everyHedge_0 6 rfl rfl
theorem dX2_everyHedge_7 : decode cX2_everyHedge 7 = .ok (.isub, 1) := dq100 bw_cX2_everyHedge_0 7 rfl rfl
theorem dX2_everyHedge_8 : decode cX2_everyHedge 8 = .ok (.ireturn, 1) := dq172 bw_cX2_everyHedge_0 8 rfl rfl
theorem bw_cX2_endsOf_0 : dq_w cX2_endsOf 0 [4, 42, 180, 0, 31, 27, 46, 120, 4, 42, 180, 0, 34, 27, 46, 120, 128, 172] = true := by decide +kernel
theorem dX2_endsOf_0 : decode cX2_endsOf 0 = .ok (.iconst 1, 1) := dq4 bw_cX2_endsOf_0 0 rfl rfl
theorem dX2_endsOf_1 : decode cX2_endsOf 1 = .ok (.aload_n 0, 1) := dq42 bw_cX2_endsOf_0 1 rfl rfl
theorem dX2_endsOf_2 : decode cX2_endsOf 2 = .ok (.getfield 31, 3) := dq180 bw_cX2_endsOf_0 2 rfl rfl rfl
theorem dX2_endsOf_5 : decode cX2_endsOf 5 = .ok (.iload_n 1, 1) := dq27 bw_cX2_endsOf_0 5 rfl rfl
theorem dX2_endsOf_6 : decode cX2_endsOf 6 = .ok (.iaload, 1) := dq46 bw_cX2_endsOf_0 6 rfl rfl
theorem dX2_endsOf_7 : decode cX2_endsOf 7 = .ok (.ishl, 1) := dq120 bw_cX2_endsOf_0 7 rfl rfl
theorem dX2_endsOf_8 : decode cX2_endsOf 8 = .ok (.iconst 1, 1) := dq4 bw_cX2_endsOf_0 8 rfl rfl
theorem dX2_endsOf_9 : decode cX2_endsOf 9 = .ok (.aload_n 0, 1) := dq42 bw_cX2_endsOf_0 9 rfl rfl
theorem dX2_endsOf_10 : decode cX2_endsOf 10 = .ok (.getfield 34, 3) := dq180 bw_cX2_endsOf_0 10 rfl rfl rfl
theorem dX2_endsOf_13 : decode cX2_endsOf 13 = .ok (.iload_n 1, 1) := dq27 bw_cX2_endsOf_0 13 rfl rfl
theorem dX2_endsOf_14 : decode cX2_endsOf 14 = .ok (.iaload, 1) := dq46 bw_cX2_endsOf_0 14 rfl rfl
theorem dX2_endsOf_15 : decode cX2_endsOf 15 = .ok (.ishl, 1) := dq120 bw_cX2_endsOf_0 15 rfl rfl
theorem dX2_endsOf_16 : decode cX2_endsOf 16 = .ok (.ior, 1) := dq128 bw_cX2_endsOf_0 16 rfl rfl
theorem dX2_endsOf_17 : decode cX2_endsOf 17 = .ok (.ireturn, 1) := dq172 bw_cX2_endsOf_0 17 rfl rfl
theorem bw_cX2_oddCorners_0 : dq_w cX2_oddCorners 0 [3, 61, 3, 62, 29, 42, 180, 0, 15, 162, 0, 25, 27, 29, 122, 4, 126, 153, 0, 11, 28, 42, 29, 182, 0, 62, 130] = true := by decide +kernel
theorem dX2_oddCorners_0 : decode cX2_oddCorners 0 = .ok (.iconst 0, 1) := dq3 bw_cX2_oddCorners_0 0 rfl rfl
theorem dX2_oddCorners_1 : decode cX2_oddCorners 1 = .ok (.istore_n 2, 1) := dq61 bw_cX2_oddCorners_0 1 rfl rfl
theorem dX2_oddCorners_2 : decode cX2_oddCorners 2 = .ok (.iconst 0, 1) := dq3 bw_cX2_oddCorners_0 2 rfl rfl
theorem dX2_oddCorners_3 : decode cX2_oddCorners 3 = .ok (.istore_n 3, 1) := dq62 bw_cX2_oddCorners_0 3 rfl rfl
theorem dX2_oddCorners_4 : decode cX2_oddCorners 4 = .ok (.iload_n 3, 1) := dq29 bw_cX2_oddCorners_0 4 rfl rfl
theorem dX2_oddCorners_5 : decode cX2_oddCorners 5 = .ok (.aload_n 0, 1) := dq42 bw_cX2_oddCorners_0 5 rfl rfl
theorem dX2_oddCorners_6 : decode cX2_oddCorners 6 = .ok (.getfield 15, 3) := dq180 bw_cX2_oddCorners_0 6 rfl rfl rfl
theorem dX2_oddCorners_9 : decode cX2_oddCorners 9 = .ok (.if_icmp .ge 25, 3) := dq162 bw_cX2_oddCorners_0 9 rfl rfl rfl
theorem dX2_oddCorners_12 : decode cX2_oddCorners 12 = .ok (.iload_n 1, 1) := dq27 bw_cX2_oddCorners_0 12 rfl rfl
theorem dX2_oddCorners_13 : decode cX2_oddCorners 13 = .ok (.iload_n 3, 1) := dq29 bw_cX2_oddCorners_0 13 rfl rfl
theorem dX2_oddCorners_14 : decode cX2_oddCorners 14 = .ok (.ishr, 1) := dq122 bw_cX2_oddCorners_0 14 rfl rfl
theorem dX2_oddCorners_15 : decode cX2_oddCorners 15 = .ok (.iconst 1, 1) := dq4 bw_cX2_oddCorners_0 15 rfl rfl
theorem dX2_oddCorners_16 : decode cX2_oddCorners 16 = .ok (.iand, 1) := dq126 bw_cX2_oddCorners_0 16 rfl rfl
theorem dX2_oddCorners_17 : decode cX2_oddCorners 17 = .ok (.ifCond .eq 11, 3) := dq153 bw_cX2_oddCorners_0 17 rfl rfl rfl
theorem dX2_oddCorners_20 : decode cX2_oddCorners 20 = .ok (.iload_n 2, 1) := dq28 bw_cX2_oddCorners_0 20 rfl rfl
theorem dX2_oddCorners_21 : decode cX2_oddCorners 21 = .ok (.aload_n 0, 1) := dq42 bw_cX2_oddCorners_0 21 rfl rfl
theorem dX2_oddCorners_22 : decode cX2_oddCorners 22 = .ok (.iload_n 3, 1) := dq29 bw_cX2_oddCorners_0 22 rfl rfl
theorem dX2_oddCorners_23 : decode cX2_oddCorners 23 = .ok (.invokevirtual 62, 3) := dq182 bw_cX2_oddCorners_0 23 rfl rfl rfl
theorem bw_cX2_oddCorners_1 : dq_w cX2_oddCorners 24 [0, 62, 130, 61, 132, 3, 1, 167, 255, 229, 28, 172] = true := by decide +kernel
theorem dX2_oddCorners_26 : decode cX2_oddCorners 26 = .ok (.ixor, 1) := dq130 bw_cX2_oddCorners_1 2 rfl rfl
theorem dX2_oddCorners_27 : decode cX2_oddCorners 27 = .ok (.istore_n 2, 1) := dq61 bw_cX2_oddCorners_1 3 rfl rfl
theorem dX2_oddCorners_28 : decode cX2_oddCorners 28 = .ok (.iinc 3 1, 3) := dq132 bw_cX2_oddCorners_1 4 rfl rfl rfl
theorem dX2_oddCorners_31 : decode cX2_oddCorners 31 = .ok (.goto (-27), 3) := dq167 bw_cX2_oddCorners_1 7 rfl rfl rfl
theorem dX2_oddCorners_34 : decode cX2_oddCorners 34 = .ok (.iload_n 2, 1) := dq28 bw_cX2_oddCorners_1 10 rfl rfl
theorem dX2_oddCorners_35 : decode cX2_oddCorners 35 = .ok (.ireturn, 1) := dq172 bw_cX2_oddCorners_1 11 rfl rfl
theorem bw_cJ6_bitCount_0f7a4_0 : dq_w cJ6_bitCount_0f7a4 0 [26, 26, 4, 124, 19, 1, 9, 126, 100, 59, 26, 19, 1, 10, 126, 26, 5, 124, 19, 1, 10, 126, 96, 59, 26, 26, 7] = true := by decide +kernel
theorem dJ6_bitCount_0f7a4_0 : decode cJ6_bitCount_0f7a4 0 = .ok (.iload_n 0, 1) := dq26 bw_cJ6_bitCount_0f7a4_0 0 rfl rfl
theorem dJ6_bitCount_0f7a4_1 : decode cJ6_bitCount_0f7a4 1 = .ok (.iload_n 0, 1) := dq26 bw_cJ6_bitCount_0f7a4_0 1 rfl rfl
theorem dJ6_bitCount_0f7a4_2 : decode cJ6_bitCount_0f7a4 2 = .ok (.iconst 1, 1) := dq4 bw_cJ6_bitCount_0f7a4_0 2 rfl rfl
theorem dJ6_bitCount_0f7a4_3 : decode cJ6_bitCount_0f7a4 3 = .ok (.iushr, 1) := dq124 bw_cJ6_bitCount_0f7a4_0 3 rfl rfl
theorem dJ6_bitCount_0f7a4_4 : decode cJ6_bitCount_0f7a4 4 = .ok (.ldc_w 265, 3) := dq19 bw_cJ6_bitCount_0f7a4_0 4 rfl rfl rfl
theorem dJ6_bitCount_0f7a4_7 : decode cJ6_bitCount_0f7a4 7 = .ok (.iand, 1) := dq126 bw_cJ6_bitCount_0f7a4_0 7 rfl rfl
theorem dJ6_bitCount_0f7a4_8 : decode cJ6_bitCount_0f7a4 8 = .ok (.isub, 1) := dq100 bw_cJ6_bitCount_0f7a4_0 8 rfl rfl
theorem dJ6_bitCount_0f7a4_9 : decode cJ6_bitCount_0f7a4 9 = .ok (.istore_n 0, 1) := dq59 bw_cJ6_bitCount_0f7a4_0 9 rfl rfl
theorem dJ6_bitCount_0f7a4_10 : decode cJ6_bitCount_0f7a4 10 = .ok (.iload_n 0, 1) := dq26 bw_cJ6_bitCount_0f7a4_0 10 rfl rfl
theorem dJ6_bitCount_0f7a4_11 : decode cJ6_bitCount_0f7a4 11 = .ok (.ldc_w 266, 3) := dq19 bw_cJ6_bitCount_0f7a4_0 11 rfl rfl rfl
theorem dJ6_bitCount_0f7a4_14 : decode cJ6_bitCount_0f7a4 14 = .ok (.iand, 1) := dq126 bw_cJ6_bitCount_0f7a4_0 14 rfl rfl
theorem dJ6_bitCount_0f7a4_15 : decode cJ6_bitCount_0f7a4 15 = .ok (.iload_n 0, 1) := dq26 bw_cJ6_bitCount_0f7a4_0 15 rfl rfl
theorem dJ6_bitCount_0f7a4_16 : decode cJ6_bitCount_0f7a4 16 = .ok (.iconst 2, 1) := dq5 bw_cJ6_bitCount_0f7a4_0 16 rfl rfl
theorem dJ6_bitCount_0f7a4_17 : decode cJ6_bitCount_0f7a4 17 = .ok (.iushr, 1) := dq124 bw_cJ6_bitCount_0f7a4_0 17 rfl rfl
theorem dJ6_bitCount_0f7a4_18 : decode cJ6_bitCount_0f7a4 18 = .ok (.ldc_w 266, 3) := dq19 bw_cJ6_bitCount_0f7a4_0 18 rfl rfl rfl
theorem dJ6_bitCount_0f7a4_21 : decode cJ6_bitCount_0f7a4 21 = .ok (.iand, 1) := dq126 bw_cJ6_bitCount_0f7a4_0 21 rfl rfl
theorem dJ6_bitCount_0f7a4_22 : decode cJ6_bitCount_0f7a4 22 = .ok (.iadd, 1) := dq96 bw_cJ6_bitCount_0f7a4_0 22 rfl rfl
theorem dJ6_bitCount_0f7a4_23 : decode cJ6_bitCount_0f7a4 23 = .ok (.istore_n 0, 1) := dq59 bw_cJ6_bitCount_0f7a4_0 23 rfl rfl
theorem bw_cJ6_bitCount_0f7a4_1 : dq_w cJ6_bitCount_0f7a4 24 [26, 26, 7, 124, 96, 19, 1, 11, 126, 59, 26, 26, 16, 8, 124, 96, 59, 26, 26, 16, 16, 124, 96, 59, 26, 16, 63] = true := by decide +kernel
theorem dJ6_bitCount_0f7a4_24 : decode cJ6_bitCount_0f7a4 24 = .ok (.iload_n 0, 1) := dq26 bw_cJ6_bitCount_0f7a4_1 0 rfl rfl
theorem dJ6_bitCount_0f7a4_25 : decode cJ6_bitCount_0f7a4 25 = .ok (.iload_n 0, 1) := dq26 bw_cJ6_bitCount_0f7a4_1 1 rfl rfl
theorem dJ6_bitCount_0f7a4_26 : decode cJ6_bitCount_0f7a4 26 = .ok (.iconst 4, 1) := dq7 bw_cJ6_bitCount_0f7a4_1 2 rfl rfl
theorem dJ6_bitCount_0f7a4_27 : decode cJ6_bitCount_0f7a4 27 = .ok (.iushr, 1) := dq124 bw_cJ6_bitCount_0f7a4_1 3 rfl rfl
theorem dJ6_bitCount_0f7a4_28 : decode cJ6_bitCount_0f7a4 28 = .ok (.iadd, 1) := dq96 bw_cJ6_bitCount_0f7a4_1 4 rfl rfl
theorem dJ6_bitCount_0f7a4_29 : decode cJ6_bitCount_0f7a4 29 = .ok (.ldc_w 267, 3) := dq19 bw_cJ6_bitCount_0f7a4_1 5 rfl rfl rfl
theorem dJ6_bitCount_0f7a4_32 : decode cJ6_bitCount_0f7a4 32 = .ok (.iand, 1) := dq126 bw_cJ6_bitCount_0f7a4_1 8 rfl rfl
theorem dJ6_bitCount_0f7a4_33 : decode cJ6_bitCount_0f7a4 33 = .ok (.istore_n 0, 1) := dq59 bw_cJ6_bitCount_0f7a4_1 9 rfl rfl
theorem dJ6_bitCount_0f7a4_34 : decode cJ6_bitCount_0f7a4 34 = .ok (.iload_n 0, 1) := dq26 bw_cJ6_bitCount_0f7a4_1 10 rfl rfl
theorem dJ6_bitCount_0f7a4_35 : decode cJ6_bitCount_0f7a4 35 = .ok (.iload_n 0, 1) := dq26 bw_cJ6_bitCount_0f7a4_1 11 rfl rfl
theorem dJ6_bitCount_0f7a4_36 : decode cJ6_bitCount_0f7a4 36 = .ok (.bipush 8, 2) := dq16 bw_cJ6_bitCount_0f7a4_1 12 rfl rfl rfl
theorem dJ6_bitCount_0f7a4_38 : decode cJ6_bitCount_0f7a4 38 = .ok (.iushr, 1) := dq124 bw_cJ6_bitCount_0f7a4_1 14 rfl rfl
theorem dJ6_bitCount_0f7a4_39 : decode cJ6_bitCount_0f7a4 39 = .ok (.iadd, 1) := dq96 bw_cJ6_bitCount_0f7a4_1 15 rfl rfl
theorem dJ6_bitCount_0f7a4_40 : decode cJ6_bitCount_0f7a4 40 = .ok (.istore_n 0, 1) := dq59 bw_cJ6_bitCount_0f7a4_1 16 rfl rfl
theorem dJ6_bitCount_0f7a4_41 : decode cJ6_bitCount_0f7a4 41 = .ok (.iload_n 0, 1) := dq26 bw_cJ6_bitCount_0f7a4_1 17 rfl rfl
theorem dJ6_bitCount_0f7a4_42 : decode cJ6_bitCount_0f7a4 42 = .ok (.iload_n 0, 1) := dq26 bw_cJ6_bitCount_0f7a4_1 18 rfl rfl
theorem dJ6_bitCount_0f7a4_43 : decode cJ6_bitCount_0f7a4 43 = .ok (.bipush 16, 2) := dq16 bw_cJ6_bitCount_0f7a4_1 19 rfl rfl rfl
theorem dJ6_bitCount_0f7a4_45 : decode cJ6_bitCount_0f7a4 45 = .ok (.iushr, 1) := dq124 bw_cJ6_bitCount_0f7a4_1 21 rfl rfl
theorem dJ6_bitCount_0f7a4_46 : decode cJ6_bitCount_0f7a4 46 = .ok (.iadd, 1) := dq96 bw_cJ6_bitCount_0f7a4_1 22 rfl rfl
theorem dJ6_bitCount_0f7a4_47 : decode cJ6_bitCount_0f7a4 47 = .ok (.istore_n 0, 1) := dq59 bw_cJ6_bitCount_0f7a4_1 23 rfl rfl
theorem bw_cJ6_bitCount_0f7a4_2 : dq_w cJ6_bitCount_0f7a4 48 [26, 16, 63, 126, 172] = true := by decide +kernel
theorem dJ6_bitCount_0f7a4_48 : decode cJ6_bitCount_0f7a4 48 = .ok (.iload_n 0, 1) := dq26 bw_cJ6_bitCount_0f7a4_2 0 rfl rfl
theorem dJ6_bitCount_0f7a4_49 : decode cJ6_bitCount_0f7a4 49 = .ok (.bipush 63, 2) := dq16 bw_cJ6_bitCount_0f7a4_2 1 rfl rfl rfl
theorem dJ6_bitCount_0f7a4_51 : decode cJ6_bitCount_0f7a4 51 = .ok (.iand, 1) := dq126 bw_cJ6_bitCount_0f7a4_2 3 rfl rfl
theorem dJ6_bitCount_0f7a4_52 : decode cJ6_bitCount_0f7a4 52 = .ok (.ireturn, 1) := dq172 bw_cJ6_bitCount_0f7a4_2 4 rfl rfl
