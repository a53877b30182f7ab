theorem dX11_quarrel_1 : decode cX11_quarrel 1 = .ok (.getfield 77, 3) := dq180 bw_cX11_quarrel_0 1 rfl rfl rfl
theorem dX11_quarrel_4 : decode cX11_quarrel 4 = .ok (.aload_n 0, 1) := dq42 bw_cX11_quarrel_0 4 rfl rfl
theorem dX11_quarrel_5 : decode cX11_quarrel 5 = .ok (.getfield 19, 3) := dq180 bw_cX11_quarrel_0 5 rfl rfl rfl
theorem dX11_quarrel_8 : decode cX11_quarrel 8 = .ok (.invokevirtual 368, 3) := dq182 bw_cX11_quarrel_0 8 rfl rfl rfl
theorem dX11_quarrel_11 : decode cX11_quarrel 11 = .ok (.istore_n 1, 1) := dq60 bw_cX11_quarrel_0 11 rfl rfl
theorem dX11_quarrel_12 : decode cX11_quarrel 12 = .ok (.iload_n 1, 1) := dq27 bw_cX11_quarrel_0 12 rfl rfl
theorem dX11_quarrel_13 : decode cX11_quarrel 13 = .ok (.ifCond .ge 6, 3) := dq156 bw_cX11_quarrel_0 13 rfl rfl rfl
theorem dX11_quarrel_16 : decode cX11_quarrel 16 = .ok (.bipush (-2), 2) := dq16 bw_cX11_quarrel_0 16 rfl rfl rfl
theorem dX11_quarrel_18 : decode cX11_quarrel 18 = .ok (.ireturn, 1) := dq172 bw_cX11_quarrel_0 18 rfl rfl
theorem dX11_quarrel_19 : decode cX11_quarrel 19 = .ok (.aload_n 0, 1) := dq42 bw_cX11_quarrel_0 19 rfl rfl
theorem dX11_quarrel_20 : decode cX11_quarrel 20 = .ok (.getfield 26, 3) := dq180 bw_cX11_quarrel_0 20 rfl rfl rfl
theorem dX11_quarrel_23 : decode cX11_quarrel 23 = .ok (.aload_n 0, 1) := dq42 bw_cX11_quarrel_0 23 rfl rfl
theorem bw_cX11_quarrel_1 : dq_w cX11_quarrel 24 [180, 0, 77, 42, 180, 0, 19, 27, 182, 1, 115, 182, 0, 224, 27, 172] = true := by decide +kernel
theorem dX11_quarrel_24 : decode cX11_quarrel 24 = .ok (.getfield 77, 3) := dq180 bw_cX11_quarrel_1 0 rfl rfl rfl
theorem dX11_quarrel_27 : decode cX11_quarrel 27 = .ok (.aload_n 0, 1) := dq42 bw_cX11_quarrel_1 3 rfl rfl
theorem dX11_quarrel_28 : decode cX11_quarrel 28 = .ok (.getfield 19, 3) := dq180 bw_cX11_quarrel_1 4 rfl rfl rfl
theorem dX11_quarrel_31 : decode cX11_quarrel 31 = .ok (.iload_n 1, 1) := dq27 bw_cX11_quarrel_1 7 rfl rfl
theorem dX11_quarrel_32 : decode cX11_quarrel 32 = .ok (.invokevirtual 371, 3) := dq182 bw_cX11_quarrel_1 8 rfl rfl rfl
theorem dX11_quarrel_35 : decode cX11_quarrel 35 = .ok (.invokevirtual 224, 3) := dq182 bw_cX11_quarrel_1 11 rfl rfl rfl
theorem dX11_quarrel_38 : decode cX11_quarrel 38 = .ok (.iload_n 1, 1) := dq27 bw_cX11_quarrel_1 14 rfl rfl
theorem dX11_quarrel_39 : decode cX11_quarrel 39 = .ok (.ireturn, 1) := dq172 bw_cX11_quarrel_1 15 rfl rfl
theorem bw_cX11_keep_0 : dq_w cX11_keep 0 [27, 155, 0, 8, 27, 6, 161, 0, 5, 3, 172, 42, 180, 0, 81, 27, 50, 42, 180, 0, 33, 182, 0, 238, 42, 180, 0] = true := by decide +kernel
theorem dX11_keep_0 : decode cX11_keep 0 = .ok (.iload_n 1, 1) := dq27 bw_cX11_keep_0 0 rfl rfl
theorem dX11_keep_1 : decode cX11_keep 1 = .ok (.ifCond .lt 8, 3) := dq155 bw_cX11_keep_0 1 rfl rfl rfl
theorem dX11_keep_4 : decode cX11_keep 4 = .ok (.iload_n 1, 1) := dq27 bw_cX11_keep_0 4 rfl rfl
theorem dX11_keep_5 : decode cX11_keep 5 = .ok (.iconst 3, 1) := dq6 bw_cX11_keep_0 5 rfl rfl
theorem dX11_keep_6 : decode cX11_keep 6 = .ok (.if_icmp .lt 5, 3) := dq161 bw_cX11_keep_0 6 rfl rfl rfl
theorem dX11_keep_9 : decode cX11_keep 9 = .ok (.iconst 0, 1) := dq3 bw_cX11_keep_0 9 rfl rfl
theorem dX11_keep_10 : decode cX11_keep 10 = .ok (.ireturn, 1) := dq172 bw_cX11_keep_0 10 rfl rfl
theorem dX11_keep_11 : decode cX11_keep 11 = .ok (.aload_n 0, 1) := dq42 bw_cX11_keep_0 11 rfl rfl
theorem dX11_keep_12 : decode cX11_keep 12 = .ok (.getfield 81, 3) := dq180 bw_cX11_keep_0 12 rfl rfl rfl
theorem dX11_keep_15 : decode cX11_keep 15 = .ok (.iload_n 1, 1) := dq27 bw_cX11_keep_0 15 rfl rfl
theorem dX11_keep_16 : decode cX11_keep 16 = .ok (.aaload, 1) := dq50 bw_cX11_keep_0 16 rfl rfl
theorem dX11_keep_17 : decode cX11_keep 17 = .ok (.aload_n 0, 1) := dq42 bw_cX11_keep_0 17 rfl rfl
theorem dX11_keep_18 : decode cX11_keep 18 = .ok (.getfield 33, 3) := dq180 bw_cX11_keep_0 18 rfl rfl rfl
theorem dX11_keep_21 : decode cX11_keep 21 = .ok (.invokevirtual 238, 3) := dq182 bw_cX11_keep_0 21 rfl rfl rfl
theorem bw_cX11_keep_1 : dq_w cX11_keep 24 [42, 180, 0, 85, 27, 4, 84, 4, 172] = true := by decide +kernel
theorem dX11_keep_24 : decode cX11_keep 24 = .ok (.aload_n 0, 1) := dq42 bw_cX11_keep_1 0 rfl rfl
theorem dX11_keep_25 : decode cX11_keep 25 = .ok (.getfield 85, 3) := dq180 bw_cX11_keep_1 1 rfl rfl rfl
theorem dX11_keep_28 : decode cX11_keep 28 = .ok (.iload_n 1, 1) := dq27 bw_cX11_keep_1 4 rfl rfl
theorem dX11_keep_29 : decode cX11_keep 29 = .ok (.iconst 1, 1) := dq4 bw_cX11_keep_1 5 rfl rfl
theorem dX11_keep_30 : decode cX11_keep 30 = .ok (.bastore, 1) := dq84 bw_cX11_keep_1 6 rfl rfl
theorem dX11_keep_31 : decode cX11_keep 31 = .ok (.iconst 1, 1) := dq4 bw_cX11_keep_1 7 rfl rfl
theorem dX11_keep_32 : decode cX11_keep 32 = .ok (.ireturn, 1) := dq172 bw_cX11_keep_1 8 rfl rfl
theorem bw_cX11_again_0 : dq_w cX11_again 0 [27, 155, 0, 17, 27, 6, 162, 0, 12, 42, 180, 0, 85, 27, 51, 154, 0, 5, 3, 172, 42, 180, 0, 33, 42, 180, 0] = true := by decide +kernel
theorem dX11_again_0 : decode cX11_again 0 = .ok (.iload_n 1, 1) := dq27 bw_cX11_again_0 0 rfl rfl
theorem dX11_again_1 : decode cX11_again 1 = .ok (.ifCond .lt 17, 3) := dq155 bw_cX11_again_0 1 rfl rfl rfl
theorem dX11_again_4 : decode cX11_again 4 = .ok (.iload_n 1, 1) := dq27 bw_cX11_again_0 4 rfl rfl
theorem dX11_again_5 : decode cX11_again 5 = .ok (.iconst 3, 1) := dq6 bw_cX11_again_0 5 rfl rfl
theorem dX11_again_6 : decode cX11_again 6 = .ok (.if_icmp .ge 12, 3) := dq162 bw_cX11_again_0 6 rfl rfl rfl
theorem dX11_again_9 : decode cX11_again 9 = .ok (.aload_n 0, 1) := dq42 bw_cX11_again_0 9 rfl rfl
theorem dX11_again_10 : decode cX11_again 10 = .ok (.getfield 85, 3) := dq180 bw_cX11_again_0 10 rfl rfl rfl
theorem dX11_again_13 : decode cX11_again 13 = .ok (.iload_n 1, 1) := dq27 bw_cX11_again_0 13 rfl rfl
theorem dX11_again_14 : decode cX11_again 14 = .ok (.baload, 1) := dq51 bw_cX11_again_0 14 rfl rfl
theorem dX11_again_15 : decode cX11_again 15 = .ok (.ifCond .ne 5, 3) := dq154 bw_cX11_again_0 15 rfl rfl rfl
theorem dX11_again_18 : decode cX11_again 18 = .ok (.iconst 0, 1) := dq3 bw_cX11_again_0 18 rfl rfl
theorem dX11_again_19 : decode cX11_again 19 = .ok (.ireturn, 1) := dq172 bw_cX11_again_0 19 rfl rfl
theorem dX11_again_20 : decode cX11_again 20 = .ok (.aload_n 0, 1) := dq42 bw_cX11_again_0 20 rfl rfl
theorem dX11_again_21 : decode cX11_again 21 = .ok (.getfield 33, 3) := dq180 bw_cX11_again_0 21 rfl rfl rfl
theorem bw_cX11_again_1 : dq_w cX11_again 24 [42, 180, 0, 81, 27, 50, 182, 0, 238, 42, 180, 0, 43, 3, 181, 0, 102, 4, 172] = true := by decide +kernel
theorem dX11_again_24 : decode cX11_again 24 = .ok (.aload_n 0, 1) := dq42 bw_cX11_again_1 0 rfl rfl
theorem dX11_again_25 : decode cX11_again 25 = .ok (.getfield 81, 3) := dq180 bw_cX11_again_1 1 rfl rfl rfl
theorem dX11_again_28 : decode cX11_again 28 = .ok (.iload_n 1, 1) := dq27 bw_cX11_again_1 4 rfl rfl
theorem dX11_again_29 : decode cX11_again 29 = .ok (.aaload, 1) := dq50 bw_cX11_again_1 5 rfl rfl
theorem dX11_again_30 : decode cX11_again 30 = .ok (.invokevirtual 238, 3) := dq182 bw_cX11_again_1 6 rfl rfl rfl
theorem dX11_again_33 : decode cX11_again 33 = .ok (.aload_n 0, 1) := dq42 bw_cX11_again_1 9 rfl rfl
theorem dX11_again_34 : decode cX11_again 34 = .ok (.getfield 43, 3) := dq180 bw_cX11_again_1 10 rfl rfl rfl
theorem dX11_again_37 : decode cX11_again 37 = .ok (.iconst 0, 1) := dq3 bw_cX11_again_1 13 rfl rfl
theorem dX11_again_38 : decode cX11_again 38 = .ok (.putfield 102, 3) := dq181 bw_cX11_again_1 14 rfl rfl rfl
theorem dX11_again_41 : decode cX11_again 41 = .ok (.iconst 1, 1) := dq4 bw_cX11_again_1 17 rfl rfl
theorem dX11_again_42 : decode cX11_again 42 = .ok (.ireturn, 1) := dq172 bw_cX11_again_1 18 rfl rfl
theorem bw_cX11_count_0 : dq_w cX11_count 0 [27, 170, 0, 0, 0, 0, 0, 132, 0, 0, 0, 0, 0, 0, 0, 9, 0, 0, 0, 55, 0, 0, 0, 63, 0, 0, 0] = true := by decide +kernel
theorem dX11_count_0 : decode cX11_count 0 = .ok (.iload_n 1, 1) := dq27 bw_cX11_count_0 0 rfl rfl
theorem dX11_count_1 : decode cX11_count 1 = .ok (.tableswitch 132 0 9 #[55, 63, 71, 76, 84, 92, 100, 108, 116, 124], 55) := by decide +kernel
theorem bw_cX11_count_2 : dq_w cX11_count 48 [0, 0, 0, 116, 0, 0, 0, 124, 42, 180, 0, 19, 180, 1, 14, 172, 42, 180, 0, 19, 180, 0, 168, 172, 42, 182, 1] = true := by decide +kernel
theorem dX11_count_56 : decode cX11_count 56 = .ok (.aload_n 0, 1) := dq42 bw_cX11_count_2 8 rfl rfl
theorem dX11_count_57 : decode cX11_count 57 = .ok (.getfield 19, 3) := dq180 bw_cX11_count_2 9 rfl rfl rfl
theorem dX11_count_60 : decode cX11_count 60 = .ok (.getfield 270, 3) := dq180 bw_cX11_count_2 12 rfl rfl rfl
theorem dX11_count_63 : decode cX11_count 63 = .ok (.ireturn, 1) := dq172 bw_cX11_count_2 15 rfl rfl
theorem dX11_count_64 : decode cX11_count 64 = .ok (.aload_n 0, 1) := dq42 bw_cX11_count_2 16 rfl rfl
theorem dX11_count_65 : decode cX11_count 65 = .ok (.getfield 19, 3) := dq180 bw_cX11_count_2 17 rfl rfl rfl
theorem dX11_count_68 : decode cX11_count 68 = .ok (.getfield 168, 3) := dq180 bw_cX11_count_2 20 rfl rfl rfl
theorem dX11_count_71 : decode cX11_count 71 = .ok (.ireturn, 1) := dq172 bw_cX11_count_2 23 rfl rfl
theorem bw_cX11_count_3 : dq_w cX11_count 72 [42, 182, 1, 11, 172, 42, 180, 0, 33, 180, 0, 193, 172, 42, 180, 0, 43, 180, 0, 102, 172, 42, 180, 0, 77, 180, 1] = true := by decide +kernel
theorem dX11_count_72 : decode cX11_count 72 = .ok (.aload_n 0, 1) := dq42 bw_cX11_count_3 0 rfl rfl
theorem dX11_count_73 : decode cX11_count 73 = .ok (.invokevirtual 267, 3) := dq182 bw_cX11_count_3 1 rfl rfl rfl
theorem dX11_count_76 : decode cX11_count 76 = .ok (.ireturn, 1) := dq172 bw_cX11_count_3 4 rfl rfl
theorem dX11_count_77 : decode cX11_count 77 = .ok (.aload_n 0, 1) := dq42 bw_cX11_count_3 5 rfl rfl
theorem dX11_count_78 : decode cX11_count 78 = .ok (.getfield 33, 3) := dq180 bw_cX11_count_3 6 rfl rfl rfl
theorem dX11_count_81 : decode cX11_count 81 = .ok (.getfield 193, 3) := dq180 bw_cX11_count_3 9 rfl rfl rfl
theorem dX11_count_84 : decode cX11_count 84 = .ok (.ireturn, 1) := dq172 bw_cX11_count_3 12 rfl rfl
theorem dX11_count_85 : decode cX11_count 85 = .ok (.aload_n 0, 1) := dq42 bw_cX11_count_3 13 rfl rfl
theorem dX11_count_86 : decode cX11_count 86 = .ok (.getfield 43, 3) := dq180 bw_cX11_count_3 14 rfl rfl rfl
theorem dX11_count_89 : decode cX11_count 89 = .ok (.getfield 102, 3) := dq180 bw_cX11_count_3 17 rfl rfl rfl
theorem dX11_count_92 : decode cX11_count 92 = .ok (.ireturn, 1) := dq172 bw_cX11_count_3 20 rfl rfl
theorem dX11_count_93 : decode cX11_count 93 = .ok (.aload_n 0, 1) := dq42 bw_cX11_count_3 21 rfl rfl
theorem dX11_count_94 : decode cX11_count 94 = .ok (.getfield 77, 3) := dq180 bw_cX11_count_3 22 rfl rfl rfl
theorem bw_cX11_count_4 : dq_w cX11_count 96 [77, 180, 1, 87, 172, 42, 180, 0, 26, 180, 1, 118, 172, 42, 180, 0, 10, 180, 0, 94, 172, 42, 180, 0, 19, 180, 0] = true := by decide +kernel
theorem dX11_count_97 : decode cX11_count 97 = .ok (.getfield 343, 3) := dq180 bw_cX11_count_4 1 rfl rfl rfl
theorem dX11_count_100 : decode cX11_count 100 = .ok (.ireturn, 1) := dq172 bw_cX11_count_4 4 rfl rfl
theorem dX11_count_101 : decode cX11_count 101 = .ok (.aload_n 0, 1) := dq42 bw_cX11_count_4 5 rfl rfl
theorem dX11_count_102 : decode cX11_count 102 = .ok (.getfield 26, 3) := dq180 bw_cX11_count_4 6 rfl rfl rfl
theorem dX11_count_105 : decode cX11_count 105 = .ok (.getfield 374, 3) := dq180 bw_cX11_count_4 9 rfl rfl rfl
theorem dX11_count_108 : decode cX11_count 108 = .ok (.ireturn, 1) := dq172 bw_cX11_count_4 12 rfl rfl
theorem dX11_count_109 : decode cX11_count 109 = .ok (.aload_n 0, 1) := dq42 bw_cX11_count_4 13 rfl rfl
theorem dX11_count_110 : decode cX11_count 110 = .ok (.getfield 10, 3) := dq180 bw_cX11_count_4 14 rfl rfl rfl
theorem dX11_count_113 : decode cX11_count 113 = .ok (.getfield 94, 3) := dq180 bw_cX11_count_4 17 rfl rfl rfl
theorem dX11_count_116 : decode cX11_count 116 = .ok (.ireturn, 1) := dq172 bw_cX11_count_4 20 rfl rfl
theorem dX11_count_117 : decode cX11_count 117 = .ok (.aload_n 0, 1) := dq42 bw_cX11_count_4 21 rfl rfl
theorem dX11_count_118 : decode cX11_count 118 = .ok (.getfield 19, 3) := dq180 bw_cX11_count_4 22 rfl rfl rfl
theorem bw_cX11_count_5 : dq_w cX11_count 120 [19, 180, 0, 162, 172, 42, 180, 0, 19, 180, 0, 165, 172, 2, 172] = true := by decide +kernel
theorem dX11_count_121 : decode cX11_count 121 = .ok (.getfield 162, 3) := dq180 bw_cX11_count_5 1 rfl rfl rfl
theorem dX11_count_124 : decode cX11_count 124 = .ok (.ireturn, 1) := dq172 bw_cX11_count_5 4 rfl rfl
theorem dX11_count_125 : decode cX11_count 125 = .ok (.aload_n 0, 1) := dq42 bw_cX11_count_5 5 rfl rfl
theorem dX11_count_126 : decode cX11_count 126 = .ok (.getfield 19, 3) := dq180 bw_cX11_count_5 6 rfl rfl rfl
theorem dX11_count_129 : decode cX11_count 129 = .ok (.getfield 165, 3) := dq180 bw_cX11_count_5 9 rfl rfl rfl
theorem dX11_count_132 : decode cX11_count 132 = .ok (.ireturn, 1) := dq172 bw_cX11_count_5 12 rfl rfl
theorem dX11_count_133 : decode cX11_count 133 = .ok (.iconst (-1), 1) := dq2 bw_cX11_count_5 13 rfl rfl
theorem dX11_count_134 : decode cX11_count 134 = .ok (.ireturn, 1) := dq172 bw_cX11_count_5 14 rfl rfl
theorem bw_cX11_row_0 : dq_w cX11_row 0 [27, 155, 0, 14, 27, 42, 180, 0, 26, 180, 1, 118, 161, 0, 14, 187, 0, 108, 89, 19, 1, 119, 183, 0, 112, 191, 42] = true := by decide +kernel
theorem dX11_row_0 : decode cX11_row 0 = .ok (.iload_n 1, 1) := dq27 bw_cX11_row_0 0 rfl rfl
theorem dX11_row_1 : decode cX11_row 1 = .ok (.ifCond .lt 14, 3) := dq155 bw_cX11_row_0 1 rfl rfl rfl
theorem dX11_row_4 : decode cX11_row 4 = .ok (.iload_n 1, 1) := dq27 bw_cX11_row_0 4 rfl rfl
theorem dX11_row_5 : decode cX11_row 5 = .ok (.aload_n 0, 1) := dq42 bw_cX11_row_0 5 rfl rfl
theorem dX11_row_6 : decode cX11_row 6 = .ok (.getfield 26, 3) := dq180 bw_cX11_row_0 6 rfl rfl rfl
theorem dX11_row_9 : decode cX11_row 9 = .ok (.getfield 374, 3) := dq180 bw_cX11_row_0 9 rfl rfl rfl
theorem dX11_row_12 : decode cX11_row 12 = .ok (.if_icmp .lt 14, 3) := dq161 bw_cX11_row_0 12 rfl rfl rfl
theorem dX11_row_15 : decode cX11_row 15 = .ok (.new 108, 3) := dq187 bw_cX11_row_0 15 rfl rfl rfl
theorem dX11_row_18 : decode cX11_row 18 = .ok (.dup, 1) := dq89 bw_cX11_row_0 18 rfl rfl
theorem dX11_row_19 : decode cX11_row 19 = .ok (.ldc_w 375, 3) := dq19 bw_cX11_row_0 19 rfl rfl rfl
theorem dX11_row_22 : decode cX11_row 22 = .ok (.invokespecial 112, 3) := dq183 bw_cX11_row_0 22 rfl rfl rfl
theorem bw_cX11_row_1 : dq_w cX11_row 24 [112, 191, 42, 180, 0, 26, 180, 1, 121, 27, 46, 172] = true := by decide +kernel
theorem dX11_row_25 : decode cX11_row 25 = .ok (.athrow, 1) := dq191 bw_cX11_row_1 1 rfl rfl
theorem dX11_row_26 : decode cX11_row 26 = .ok (.aload_n 0, 1) := dq42 bw_cX11_row_1 2 rfl rfl
theorem dX11_row_27 : decode cX11_row 27 = .ok (.getfield 26, 3) := dq180 bw_cX11_row_1 3 rfl rfl rfl
theorem dX11_row_30 : decode cX11_row 30 = .ok (.getfield 377, 3) := dq180 bw_cX11_row_1 6 rfl rfl rfl
theorem dX11_row_33 : decode cX11_row 33 = .ok (.iload_n 1, 1) := dq27 bw_cX11_row_1 9 rfl rfl
theorem dX11_row_34 : decode cX11_row 34 = .ok (.iaload, 1) := dq46 bw_cX11_row_1 10 rfl rfl
theorem dX11_row_35 : decode cX11_row 35 = .ok (.ireturn, 1) := dq172 bw_cX11_row_1 11 rfl rfl
theorem bw_cX12_sign_0 : dq_w cX12_sign 0 [42, 3, 181, 0, 3, 42, 180, 0, 24, 16, 76, 164, 0, 5, 2, 172, 3, 61, 28, 7, 162, 0, 33, 42, 180, 0, 27] = true := by decide +kernel
theorem dX12_sign_0 : decode cX12_sign 0 = .ok (.aload_n 0, 1) := dq42 bw_cX12_sign_0 0 rfl rfl
theorem dX12_sign_1 : decode cX12_sign 1 = .ok (.iconst 0, 1) := dq3 bw_cX12_sign_0 1 rfl rfl
theorem dX12_sign_2 : decode cX12_sign 2 = .ok (.putfield 3, 3) := dq181 bw_cX12_sign_0 2 rfl rfl rfl
theorem dX12_sign_5 : decode cX12_sign 5 = .ok (.aload_n 0, 1) := dq42 bw_cX12_sign_0 5 rfl rfl
theorem dX12_sign_6 : decode cX12_sign 6 = .ok (.getfield 24, 3) := dq180 bw_cX12_sign_0 6 rfl rfl rfl
theorem dX12_sign_9 : decode cX12_sign 9 = .ok (.bipush 76, 2) := dq16 bw_cX12_sign_0 9 rfl rfl rfl
theorem dX12_sign_11 : decode cX12_sign 11 = .ok (.if_icmp .le 5, 3) := dq164 bw_cX12_sign_0 11 rfl rfl rfl
theorem dX12_sign_14 : decode cX12_sign 14 = .ok (.iconst (-1), 1) := dq2 bw_cX12_sign_0 14 rfl rfl
theorem dX12_sign_15 : decode cX12_sign 15 = .ok (.ireturn, 1) := dq172 bw_cX12_sign_0 15 rfl rfl
theorem dX12_sign_16 : decode cX12_sign 16 = .ok (.iconst 0, 1) := dq3 bw_cX12_sign_0 16 rfl rfl
theorem dX12_sign_17 : decode cX12_sign 17 = .ok (.istore_n 2, 1) := dq61 bw_cX12_sign_0 17 rfl rfl
theorem dX12_sign_18 : decode cX12_sign 18 = .ok (.iload_n 2, 1) := dq28 bw_cX12_sign_0 18 rfl rfl
theorem dX12_sign_19 : decode cX12_sign 19 = .ok (.iconst 4, 1) := dq7 bw_cX12_sign_0 19 rfl rfl
theorem dX12_sign_20 : decode cX12_sign 20 = .ok (.if_icmp .ge 33, 3) := dq162 bw_cX12_sign_0 20 rfl rfl rfl
theorem dX12_sign_23 : decode cX12_sign 23 = .ok (.aload_n 0, 1) := dq42 bw_cX12_sign_0 23 rfl rfl
theorem bw_cX12_sign_1 : dq_w cX12_sign 24 [180, 0, 27, 42, 180, 0, 24, 28, 96, 27, 16, 24, 16, 8, 28, 104, 100, 122, 17, 0, 255, 126, 79, 132, 2, 1, 167] = true := by decide +kernel
theorem dX12_sign_24 : decode cX12_sign 24 = .ok (.getfield 27, 3) := dq180 bw_cX12_sign_1 0 rfl rfl rfl
theorem dX12_sign_27 : decode cX12_sign 27 = .ok (.aload_n 0, 1) := dq42 bw_cX12_sign_1 3 rfl rfl
theorem dX12_sign_28 : decode cX12_sign 28 = .ok (.getfield 24, 3) := dq180 bw_cX12_sign_1 4 rfl rfl rfl
theorem dX12_sign_31 : decode cX12_sign 31 = .ok (.iload_n 2, 1) := dq28 bw_cX12_sign_1 7 rfl rfl
theorem dX12_sign_32 : decode cX12_sign 32 = .ok (.iadd, 1) := dq96 bw_cX12_sign_1 8 rfl rfl
theorem dX12_sign_33 : decode cX12_sign 33 = .ok (.iload_n 1, 1) := dq27 bw_cX12_sign_1 9 rfl rfl
theorem dX12_sign_34 : decode cX12_sign 34 = .ok (.bipush 24, 2) := dq16 bw_cX12_sign_1 10 rfl rfl rfl
theorem dX12_sign_36 : decode cX12_sign 36 = .ok (.bipush 8, 2) := dq16 bw_cX12_sign_1 12 rfl rfl rfl
theorem dX12_sign_38 : decode cX12_sign 38 = .ok (.iload_n 2, 1) := dq28 bw_cX12_sign_1 14 rfl rfl
theorem dX12_sign_39 : decode cX12_sign 39 = .ok (.imul, 1) := dq104 bw_cX12_sign_1 15 rfl rfl
theorem dX12_sign_40 : decode cX12_sign 40 = .ok (.isub, 1) := dq100 bw_cX12_sign_1 16 rfl rfl
theorem dX12_sign_41 : decode cX12_sign 41 = .ok (.ishr, 1) := dq122 bw_cX12_sign_1 17 rfl rfl
theorem dX12_sign_42 : decode cX12_sign 42 = .ok (.sipush 255, 3) := dq17 bw_cX12_sign_1 18 rfl rfl rfl
theorem dX12_sign_45 : decode cX12_sign 45 = .ok (.iand, 1) := dq126 bw_cX12_sign_1 21 rfl rfl
theorem dX12_sign_46 : decode cX12_sign 46 = .ok (.iastore, 1) := dq79 bw_cX12_sign_1 22 rfl rfl
theorem dX12_sign_47 : decode cX12_sign 47 = .ok (.iinc 2 1, 3) := dq132 bw_cX12_sign_1 23 rfl rfl rfl
theorem bw_cX12_sign_2 : dq_w cX12_sign 48 [2, 1, 167, 255, 224, 42, 89, 180, 0, 24, 7, 96, 181, 0, 24, 42, 180, 0, 24, 172] = true := by decide +kernel
theorem dX12_sign_50 : decode cX12_sign 50 = .ok (.goto (-32), 3) := dq167 bw_cX12_sign_2 2 rfl rfl rfl
theorem dX12_sign_53 : decode cX12_sign 53 = .ok (.aload_n 0, 1) := dq42 bw_cX12_sign_2 5 rfl rfl
theorem dX12_sign_54 : decode cX12_sign 54 = .ok (.dup, 1) := dq89 bw_cX12_sign_2 6 rfl rfl
theorem dX12_sign_55 : decode cX12_sign 55 = .ok (.getfield 24, 3) := dq180 bw_cX12_sign_2 7 rfl rfl rfl
theorem dX12_sign_58 : decode cX12_sign 58 = .ok (.iconst 4, 1) := dq7 bw_cX12_sign_2 10 rfl rfl
theorem dX12_sign_59 : decode cX12_sign 59 = .ok (.iadd, 1) := dq96 bw_cX12_sign_2 11 rfl rfl
theorem dX12_sign_60 : decode cX12_sign 60 = .ok (.putfield 24, 3) := dq181 bw_cX12_sign_2 12 rfl rfl rfl
theorem dX12_sign_63 : decode cX12_sign 63 = .ok (.aload_n 0, 1) := dq42 bw_cX12_sign_2 15 rfl rfl
theorem dX12_sign_64 : decode cX12_sign 64 = .ok (.getfield 24, 3) := dq180 bw_cX12_sign_2 16 rfl rfl rfl
theorem dX12_sign_67 : decode cX12_sign 67 = .ok (.ireturn, 1) := dq172 bw_cX12_sign_2 19 rfl rfl
theorem bw_cX12_in_0 : dq_w cX12_in 0 [30, 32, 148, 155, 0, 14, 30, 22, 4, 148, 157, 0, 7, 4, 167, 0, 4, 3, 172] = true := by decide +kernel
theorem dX12_in_0 : decode cX12_in 0 = .ok (.lload_n 0, 1) := dq30 bw_cX12_in_0 0 rfl rfl
theorem dX12_in_1 : decode cX12_in 1 = .ok (.lload_n 2, 1) := dq32 bw_cX12_in_0 1 rfl rfl
theorem dX12_in_2 : decode cX12_in 2 = .ok (.lcmp, 1) := dq148 bw_cX12_in_0 2 rfl rfl
theorem dX12_in_3 : decode cX12_in 3 = .ok (.ifCond .lt 14, 3) := dq155 bw_cX12_in_0 3 rfl rfl rfl
theorem dX12_in_6 : decode cX12_in 6 = .ok (.lload_n 0, 1) := dq30 bw_cX12_in_0 6 rfl rfl
theorem dX12_in_7 : decode cX12_in 7 = .ok (.lload 4, 2) := dq22 bw_cX12_in_0 7 rfl rfl
theorem dX12_in_9 : decode cX12_in 9 = .ok (.lcmp, 1) := dq148 bw_cX12_in_0 9 rfl rfl
theorem dX12_in_10 : decode cX12_in 10 = .ok (.ifCond .gt 7, 3) := dq157 bw_cX12_in_0 10 rfl rfl rfl
theorem dX12_in_13 : decode cX12_in 13 = .ok (.iconst 1, 1) := dq4 bw_cX12_in_0 13 rfl rfl
theorem dX12_in_14 : decode cX12_in 14 = .ok (.goto 4, 3) := dq167 bw_cX12_in_0 14 rfl rfl rfl
theorem dX12_in_17 : decode cX12_in 17 = .ok (.iconst 0, 1) := dq3 bw_cX12_in_0 17 rfl rfl
theorem dX12_in_18 : decode cX12_in 18 = .ok (.ireturn, 1) := dq172 bw_cX12_in_0 18 rfl rfl
theorem bw_cX12_end_0 : dq_w cX12_end 0 [42, 3, 181, 0, 3, 27, 133, 9, 42, 180, 0, 24, 133, 184, 0, 17, 154, 0, 5, 3, 172, 42, 27, 181, 0, 24, 4] = true := by decide +kernel
theorem dX12_end_0 : decode cX12_end 0 = .ok (.aload_n 0, 1) := dq42 bw_cX12_end_0 0 rfl rfl
theorem dX12_end_1 : decode cX12_end 1 = .ok (.iconst 0, 1) := dq3 bw_cX12_end_0 1 rfl rfl
theorem dX12_end_2 : decode cX12_end 2 = .ok (.putfield 3, 3) := dq181 bw_cX12_end_0 2 rfl rfl rfl
theorem dX12_end_5 : decode cX12_end 5 = .ok (.iload_n 1, 1) := dq27 bw_cX12_end_0 5 rfl rfl
theorem dX12_end_6 : decode cX12_end 6 = .ok (.i2l, 1) := dq133 bw_cX12_end_0 6 rfl rfl
theorem dX12_end_7 : decode cX12_end 7 = .ok (.lconst 0, 1) := dq9 bw_cX12_end_0 7 rfl rfl
theorem dX12_end_8 : decode cX12_end 8 = .ok (.aload_n 0, 1) := dq42 bw_cX12_end_0 8 rfl rfl
theorem dX12_end_9 : decode cX12_end 9 = .ok (.getfield 24, 3) := dq180 bw_cX12_end_0 9 rfl rfl rfl
theorem dX12_end_12 : decode cX12_end 12 = .ok (.i2l, 1) := dq133 bw_cX12_end_0 12 rfl rfl
theorem dX12_end_13 : decode cX12_end 13 = .ok (.invokestatic 17, 3) := dq184 bw_cX12_end_0 13 rfl rfl rfl
theorem dX12_end_16 : decode cX12_end 16 = .ok (.ifCond .ne 5, 3) := dq154 bw_cX12_end_0 16 rfl rfl rfl
theorem dX12_end_19 : decode cX12_end 19 = .ok (.iconst 0, 1) := dq3 bw_cX12_end_0 19 rfl rfl
theorem dX12_end_20 : decode cX12_end 20 = .ok (.ireturn, 1) := dq172 bw_cX12_end_0 20 rfl rfl
theorem dX12_end_21 : decode cX12_end 21 = .ok (.aload_n 0, 1) := dq42 bw_cX12_end_0 21 rfl rfl
theorem dX12_end_22 : decode cX12_end 22 = .ok (.iload_n 1, 1) := dq27 bw_cX12_end_0 22 rfl rfl
theorem dX12_end_23 : decode cX12_end 23 = .ok (.putfield 24, 3) := dq181 bw_cX12_end_0 23 rfl rfl rfl
theorem bw_cX12_end_1 : dq_w cX12_end 24 [0, 24, 4, 172] = true := by decide +kernel
theorem dX12_end_26 : decode cX12_end 26 = .ok (.iconst 1, 1) := dq4 bw_cX12_end_1 2 rfl rfl
theorem dX12_end_27 : decode cX12_end 27 = .ok (.ireturn, 1) := dq172 bw_cX12_end_1 3 rfl rfl
theorem bw_cX12_begins_0 : dq_w cX12_begins 0 [42, 180, 0, 24, 61, 42, 3, 181, 0, 24, 42, 3, 181, 0, 30, 42, 28, 27, 184, 0, 33, 181, 0, 39, 28, 172] = true := by decide +kernel
theorem dX12_begins_0 : decode cX12_begins 0 = .ok (.aload_n 0, 1) := dq42 bw_cX12_begins_0 0 rfl rfl
theorem dX12_begins_1 : decode cX12_begins 1 = .ok (.getfield 24, 3) := dq180 bw_cX12_begins_0 1 rfl rfl rfl
theorem dX12_begins_4 : decode cX12_begins 4 = .ok (.istore_n 2, 1) := dq61 bw_cX12_begins_0 4 rfl rfl
theorem dX12_begins_5 : decode cX12_begins 5 = .ok (.aload_n 0, 1) := dq42 bw_cX12_begins_0 5 rfl rfl
theorem dX12_begins_6 : decode cX12_begins 6 = .ok (.iconst 0, 1) := dq3 bw_cX12_begins_0 6 rfl rfl
theorem dX12_begins_7 : decode cX12_begins 7 = .ok (.putfield 24, 3) := dq181 bw_cX12_begins_0 7 rfl rfl rfl
theorem dX12_begins_10 : decode cX12_begins 10 = .ok (.aload_n 0, 1) := dq42 bw_cX12_begins_0 10 rfl rfl
theorem dX12_begins_11 : decode cX12_begins 11 = .ok (.iconst 0, 1) := dq3 bw_cX12_begins_0 11 rfl rfl
theorem dX12_begins_12 : decode cX12_begins 12 = .ok (.putfield 30, 3) := dq181 bw_cX12_begins_0 12 rfl rfl rfl
theorem dX12_begins_15 : decode cX12_begins 15 = .ok (.aload_n 0, 1) := dq42 bw_cX12_begins_0 15 rfl rfl
theorem dX12_begins_16 : decode cX12_begins 16 = .ok (.iload_n 2, 1) := dq28 bw_cX12_begins_0 16 rfl rfl
theorem dX12_begins_17 : decode cX12_begins 17 = .ok (.iload_n 1, 1) := dq27 bw_cX12_begins_0 17 rfl rfl
theorem dX12_begins_18 : decode cX12_begins 18 = .ok (.invokestatic 33, 3) := dq184 bw_cX12_begins_0 18 rfl rfl rfl
theorem dX12_begins_21 : decode cX12_begins 21 = .ok (.putfield 39, 3) := dq181 bw_cX12_begins_0 21 rfl rfl rfl
theorem bw_cX12_begins_1 : dq_w cX12_begins 24 [28, 172] = true := by decide +kernel
theorem dX12_begins_24 : decode cX12_begins 24 = .ok (.iload_n 2, 1) := dq28 bw_cX12_begins_1 0 rfl rfl
theorem dX12_begins_25 : decode cX12_begins 25 = .ok (.ireturn, 1) := dq172 bw_cX12_begins_1 1 rfl rfl
theorem bw_cX12_faultOf_0 : dq_w cX12_faultOf 0 [29, 153, 0, 18, 42, 180, 0, 30, 42, 180, 0, 39, 160, 0, 7, 4, 167, 0, 4, 3, 54, 4, 27, 28, 164, 0, 20] = true := by decide +kernel
theorem dX12_faultOf_0 : decode cX12_faultOf 0 = .ok (.iload_n 3, 1) := dq29 bw_cX12_faultOf_0 0 rfl rfl
theorem dX12_faultOf_1 : decode cX12_faultOf 1 = .ok (.ifCond .eq 18, 3) := dq153 bw_cX12_faultOf_0 1 rfl rfl rfl
theorem dX12_faultOf_4 : decode cX12_faultOf 4 = .ok (.aload_n 0, 1) := dq42 bw_cX12_faultOf_0 4 rfl rfl
theorem dX12_faultOf_5 : decode cX12_faultOf 5 = .ok (.getfield 30, 3) := dq180 bw_cX12_faultOf_0 5 rfl rfl rfl
theorem dX12_faultOf_8 : decode cX12_faultOf 8 = .ok (.aload_n 0, 1) := dq42 bw_cX12_faultOf_0 8 rfl rfl
theorem dX12_faultOf_9 : decode cX12_faultOf 9 = .ok (.getfield 39, 3) := dq180 bw_cX12_faultOf_0 9 rfl rfl rfl
theorem dX12_faultOf_12 : decode cX12_faultOf 12 = .ok (.if_icmp .ne 7, 3) := dq160 bw_cX12_faultOf_0 12 rfl rfl rfl
theorem dX12_faultOf_15 : decode cX12_faultOf 15 = .ok (.iconst 1, 1) := dq4 bw_cX12_faultOf_0 15 rfl rfl
theorem dX12_faultOf_16 : decode cX12_faultOf 16 = .ok (.goto 4, 3) := dq167 bw_cX12_faultOf_0 16 rfl rfl rfl
theorem dX12_faultOf_19 : decode cX12_faultOf 19 = .ok (.iconst 0, 1) := dq3 bw_cX12_faultOf_0 19 rfl rfl
theorem dX12_faultOf_20 : decode cX12_faultOf 20 = .ok (.istore 4, 2) := dq54 bw_cX12_faultOf_0 20 rfl rfl
theorem dX12_faultOf_22 : decode cX12_faultOf 22 = .ok (.iload_n 1, 1) := dq27 bw_cX12_faultOf_0 22 rfl rfl
theorem dX12_faultOf_23 : decode cX12_faultOf 23 = .ok (.iload_n 2, 1) := dq28 bw_cX12_faultOf_0 23 rfl rfl
theorem bw_cX12_faultOf_1 : dq_w cX12_faultOf 24 [164, 0, 20, 21, 4, 154, 0, 11, 42, 180, 0, 30, 28, 161, 0, 7, 2, 28, 100, 172, 21, 4, 153, 0, 7, 3, 167] = true := by decide +kernel
theorem dX12_faultOf_24 : decode cX12_faultOf 24 = .ok (.if_icmp .le 20, 3) := dq164 bw_cX12_faultOf_1 0 rfl rfl rfl
theorem dX12_faultOf_27 : decode cX12_faultOf 27 = .ok (.iload 4, 2) := dq21 bw_cX12_faultOf_1 3 rfl rfl
theorem dX12_faultOf_29 : decode cX12_faultOf 29 = .ok (.ifCond .ne 11, 3) := dq154 bw_cX12_faultOf_1 5 rfl rfl rfl
theorem dX12_faultOf_32 : decode cX12_faultOf 32 = .ok (.aload_n 0, 1) := dq42 bw_cX12_faultOf_1 8 rfl rfl
theorem dX12_faultOf_33 : decode cX12_faultOf 33 = .ok (.getfield 30, 3) := dq180 bw_cX12_faultOf_1 9 rfl rfl rfl
theorem dX12_faultOf_36 : decode cX12_faultOf 36 = .ok (.iload_n 2, 1) := dq28 bw_cX12_faultOf_1 12 rfl rfl
theorem dX12_faultOf_37 : decode cX12_faultOf 37 = .ok (.if_icmp .lt 7, 3) := dq161 bw_cX12_faultOf_1 13 rfl rfl rfl
theorem dX12_faultOf_40 : decode cX12_faultOf 40 = .ok (.iconst (-1), 1) := dq2 bw_cX12_faultOf_1 16 rfl rfl
theorem dX12_faultOf_41 : decode cX12_faultOf 41 = .ok (.iload_n 2, 1) := dq28 bw_cX12_faultOf_1 17 rfl rfl
theorem dX12_faultOf_42 : decode cX12_faultOf 42 = .ok (.isub, 1) := dq100 bw_cX12_faultOf_1 18 rfl rfl
theorem dX12_faultOf_43 : decode cX12_faultOf 43 = .ok (.ireturn, 1) := dq172 bw_cX12_faultOf_1 19 rfl rfl
theorem dX12_faultOf_44 : decode cX12_faultOf 44 = .ok (.iload 4, 2) := dq21 bw_cX12_faultOf_1 20 rfl rfl
theorem dX12_faultOf_46 : decode cX12_faultOf 46 = .ok (.ifCond .eq 7, 3) := dq153 bw_cX12_faultOf_1 22 rfl rfl rfl
theorem bw_cX12_faultOf_2 : dq_w cX12_faultOf 48 [7, 3, 167, 0, 9, 2, 42, 180, 0, 30, 100, 172] = true := by decide +kernel
theorem dX12_faultOf_49 : decode cX12_faultOf 49 = .ok (.iconst 0, 1) := dq3 bw_cX12_faultOf_2 1 rfl rfl
theorem dX12_faultOf_50 : decode cX12_faultOf 50 = .ok (.goto 9, 3) := dq167 bw_cX12_faultOf_2 2 rfl rfl rfl
theorem dX12_faultOf_53 : decode cX12_faultOf 53 = .ok (.iconst (-1), 1) := dq2 bw_cX12_faultOf_2 5 rfl rfl
theorem dX12_faultOf_54 : decode cX12_faultOf 54 = .ok (.aload_n 0, 1) := dq42 bw_cX12_faultOf_2 6 rfl rfl
theorem dX12_faultOf_55 : decode cX12_faultOf 55 = .ok (.getfield 30, 3) := dq180 bw_cX12_faultOf_2 7 rfl rfl rfl
theorem dX12_faultOf_58 : decode cX12_faultOf 58 = .ok (.isub, 1) := dq100 bw_cX12_faultOf_2 10 rfl rfl
theorem dX12_faultOf_59 : decode cX12_faultOf 59 = .ok (.ireturn, 1) := dq172 bw_cX12_faultOf_2 11 rfl rfl
theorem bw_cX12_isAt_0 : dq_w cX12_isAt 0 [42, 180, 0, 30, 42, 180, 0, 39, 162, 0, 20, 42, 180, 0, 27, 42, 180, 0, 30, 46, 27, 160, 0, 7, 4, 167, 0] = true := by decide +kernel
theorem dX12_isAt_0 : decode cX12_isAt 0 = .ok (.aload_n 0, 1) := dq42 bw_cX12_isAt_0 0 rfl rfl
theorem dX12_isAt_1 : decode cX12_isAt 1 = .ok (.getfield 30, 3) := dq180 bw_cX12_isAt_0 1 rfl rfl rfl
theorem dX12_isAt_4 : decode cX12_isAt 4 = .ok (.aload_n 0, 1) := dq42 bw_cX12_isAt_0 4 rfl rfl
theorem dX12_isAt_5 : decode cX12_isAt 5 = .ok (.getfield 39, 3) := dq180 bw_cX12_isAt_0 5 rfl rfl rfl
theorem dX12_isAt_8 : decode cX12_isAt 8 = .ok (.if_icmp .ge 20, 3) := dq162 bw_cX12_isAt_0 8 rfl rfl rfl
theorem dX12_isAt_11 : decode cX12_isAt 11 = .ok (.aload_n 0, 1) := dq42 bw_cX12_isAt_0 11 rfl rfl
theorem dX12_isAt_12 : decode cX12_isAt 12 = .ok (.getfield 27, 3) := dq180 bw_cX12_isAt_0 12 rfl rfl rfl
theorem dX12_isAt_15 : decode cX12_isAt 15 = .ok (.aload_n 0, 1) := dq42 bw_cX12_isAt_0 15 rfl rfl
theorem dX12_isAt_16 : decode cX12_isAt 16 = .ok (.getfield 30, 3) := dq180 bw_cX12_isAt_0 16 rfl rfl rfl
theorem dX12_isAt_19 : decode cX12_isAt 19 = .ok (.iaload, 1) := dq46 bw_cX12_isAt_0 19 rfl rfl
theorem dX12_isAt_20 : decode cX12_isAt 20 = .ok (.iload_n 1, 1) := dq27 bw_cX12_isAt_0 20 rfl rfl
theorem dX12_isAt_21 : decode cX12_isAt 21 = .ok (.if_icmp .ne 7, 3) := dq160 bw_cX12_isAt_0 21 rfl rfl rfl
theorem bw_cX12_isAt_1 : dq_w cX12_isAt 24 [4, 167, 0, 4, 3, 172] = true := by decide +kernel
theorem dX12_isAt_24 : decode cX12_isAt 24 = .ok (.iconst 1, 1) := dq4 bw_cX12_isAt_1 0 rfl rfl
theorem dX12_isAt_25 : decode cX12_isAt 25 = .ok (.goto 4, 3) := dq167 bw_cX12_isAt_1 1 rfl rfl rfl
theorem dX12_isAt_28 : decode cX12_isAt 28 = .ok (.iconst 0, 1) := dq3 bw_cX12_isAt_1 4 rfl rfl
theorem dX12_isAt_29 : decode cX12_isAt 29 = .ok (.ireturn, 1) := dq172 bw_cX12_isAt_1 5 rfl rfl
theorem bw_cX12_cornerBut_0 : dq_w cX12_cornerBut 0 [42, 180, 0, 30, 42, 180, 0, 39, 162, 0, 46, 42, 180, 0, 27, 42, 180, 0, 30, 46, 16, 97, 100, 133, 9, 42, 180] = true := by decide +kernel
theorem dX12_cornerBut_0 : decode cX12_cornerBut 0 = .ok (.aload_n 0, 1) := dq42 bw_cX12_cornerBut_0 0 rfl rfl
theorem dX12_cornerBut_1 : decode cX12_cornerBut 1 = .ok (.getfield 30, 3) := dq180 bw_cX12_cornerBut_0 1 rfl rfl rfl
theorem dX12_cornerBut_4 : decode cX12_cornerBut 4 = .ok (.aload_n 0, 1) := dq42 bw_cX12_cornerBut_0 4 rfl rfl
theorem dX12_cornerBut_5 : decode cX12_cornerBut 5 = .ok (.getfield 39, 3) := dq180 bw_cX12_cornerBut_0 5 rfl rfl rfl
theorem dX12_cornerBut_8 : decode cX12_cornerBut 8 = .ok (.if_icmp .ge 46, 3) := dq162 bw_cX12_cornerBut_0 8 rfl rfl rfl
theorem dX12_cornerBut_11 : decode cX12_cornerBut 11 = .ok (.aload_n 0, 1) := dq42 bw_cX12_cornerBut_0 11 rfl rfl
theorem dX12_cornerBut_12 : decode cX12_cornerBut 12 = .ok (.getfield 27, 3) := dq180 bw_cX12_cornerBut_0 12 rfl rfl rfl
theorem dX12_cornerBut_15 : decode cX12_cornerBut 15 = .ok (.aload_n 0, 1) := dq42 bw_cX12_cornerBut_0 15 rfl rfl
theorem dX12_cornerBut_16 : decode cX12_cornerBut 16 = .ok (.getfield 30, 3) := dq180 bw_cX12_cornerBut_0 16 rfl rfl rfl
theorem dX12_cornerBut_19 : decode cX12_cornerBut 19 = .ok (.iaload, 1) := dq46 bw_cX12_cornerBut_0 19 rfl rfl
theorem dX12_cornerBut_20 : decode cX12_cornerBut 20 = .ok (.bipush 97, 2) := dq16 bw_cX12_cornerBut_0 20 rfl rfl rfl
theorem dX12_cornerBut_22 : decode cX12_cornerBut 22 = .ok (.isub, 1) := dq100 bw_cX12_cornerBut_0 22 rfl rfl
theorem dX12_cornerBut_23 : decode cX12_cornerBut 23 = .ok (.i2l, 1) := dq133 bw_cX12_cornerBut_0 23 rfl rfl
theorem bw_cX12_cornerBut_1 : dq_w cX12_cornerBut 24 [9, 42, 180, 0, 58, 4, 100, 133, 184, 0, 17, 153, 0, 19, 42, 180, 0, 27, 42, 180, 0, 30, 46, 16, 97, 100, 27] = true := by decide +kernel
theorem dX12_cornerBut_24 : decode cX12_cornerBut 24 = .ok (.lconst 0, 1) := dq9 bw_cX12_cornerBut_1 0 rfl rfl
theorem dX12_cornerBut_25 : decode cX12_cornerBut 25 = .ok (.aload_n 0, 1) := dq42 bw_cX12_cornerBut_1 1 rfl rfl
theorem dX12_cornerBut_26 : decode cX12_cornerBut 26 = .ok (.getfield 58, 3) := dq180 bw_cX12_cornerBut_1 2 rfl rfl rfl
theorem dX12_cornerBut_29 : decode cX12_cornerBut 29 = .ok (.iconst 1, 1) := dq4 bw_cX12_cornerBut_1 5 rfl rfl
theorem dX12_cornerBut_30 : decode cX12_cornerBut 30 = .ok (.isub, 1) := dq100 bw_cX12_cornerBut_1 6 rfl rfl
theorem dX12_cornerBut_31 : decode cX12_cornerBut 31 = .ok (.i2l, 1) := dq133 bw_cX12_cornerBut_1 7 rfl rfl
theorem dX12_cornerBut_32 : decode cX12_cornerBut 32 = .ok (.invokestatic 17, 3) := dq184 bw_cX12_cornerBut_1 8 rfl rfl rfl
theorem dX12_cornerBut_35 : decode cX12_cornerBut 35 = .ok (.ifCond .eq 19, 3) := dq153 bw_cX12_cornerBut_1 11 rfl rfl rfl
theorem dX12_cornerBut_38 : decode cX12_cornerBut 38 = .ok (.aload_n 0, 1) := dq42 bw_cX12_cornerBut_1 14 rfl rfl
theorem dX12_cornerBut_39 : decode cX12_cornerBut 39 = .ok (.getfield 27, 3) := dq180 bw_cX12_cornerBut_1 15 rfl rfl rfl
theorem dX12_cornerBut_42 : decode cX12_cornerBut 42 = .ok (.aload_n 0, 1) := dq42 bw_cX12_cornerBut_1 18 rfl rfl
theorem dX12_cornerBut_43 : decode cX12_cornerBut 43 = .ok (.getfield 30, 3) := dq180 bw_cX12_cornerBut_1 19 rfl rfl rfl
theorem dX12_cornerBut_46 : decode cX12_cornerBut 46 = .ok (.iaload, 1) := dq46 bw_cX12_cornerBut_1 22 rfl rfl
theorem dX12_cornerBut_47 : decode cX12_cornerBut 47 = .ok (.bipush 97, 2) := dq16 bw_cX12_cornerBut_1 23 rfl rfl rfl
theorem bw_cX12_cornerBut_2 : dq_w cX12_cornerBut 48 [97, 100, 27, 160, 0, 5, 2, 172, 42, 89, 180, 0, 30, 4, 96, 181, 0, 30, 42, 180, 0, 27, 42, 180, 0, 30, 4] = true := by decide +kernel
theorem dX12_cornerBut_49 : decode cX12_cornerBut 49 = .ok (.isub, 1) := dq100 bw_cX12_cornerBut_2 1 rfl rfl
theorem dX12_cornerBut_50 : decode cX12_cornerBut 50 = .ok (.iload_n 1, 1) := dq27 bw_cX12_cornerBut_2 2 rfl rfl
theorem dX12_cornerBut_51 : decode cX12_cornerBut 51 = .ok (.if_icmp .ne 5, 3) := dq160 bw_cX12_cornerBut_2 3 rfl rfl rfl
theorem dX12_cornerBut_54 : decode cX12_cornerBut 54 = .ok (.iconst (-1), 1) := dq2 bw_cX12_cornerBut_2 6 rfl rfl
theorem dX12_cornerBut_55 : decode cX12_cornerBut 55 = .ok (.ireturn, 1) := dq172 bw_cX12_cornerBut_2 7 rfl rfl
theorem dX12_cornerBut_56 : decode cX12_cornerBut 56 = .ok (.aload_n 0, 1) := dq42 bw_cX12_cornerBut_2 8 rfl rfl
theorem dX12_cornerBut_57 : decode cX12_cornerBut 57 = .ok (.dup, 1) := dq89 bw_cX12_cornerBut_2 9 rfl rfl
theorem dX12_cornerBut_58 : decode cX12_cornerBut 58 = .ok (.getfield 30, 3) := dq180 bw_cX12_cornerBut_2 10 rfl rfl rfl
theorem dX12_cornerBut_61 : decode cX12_cornerBut 61 = .ok (.iconst 1, 1) := dq4 bw_cX12_cornerBut_2 13 rfl rfl
theorem dX12_cornerBut_62 : decode cX12_cornerBut 62 = .ok (.iadd, 1) := dq96 bw_cX12_cornerBut_2 14 rfl rfl
theorem dX12_cornerBut_63 : decode cX12_cornerBut 63 = .ok (.putfield 30, 3) := dq181 bw_cX12_cornerBut_2 15 rfl rfl rfl
theorem dX12_cornerBut_66 : decode cX12_cornerBut 66 = .ok (.aload_n 0, 1) := dq42 bw_cX12_cornerBut_2 18 rfl rfl
theorem dX12_cornerBut_67 : decode cX12_cornerBut 67 = .ok (.getfield 27, 3) := dq180 bw_cX12_cornerBut_2 19 rfl rfl rfl
theorem dX12_cornerBut_70 : decode cX12_cornerBut 70 = .ok (.aload_n 0, 1) := dq42 bw_cX12_cornerBut_2 22 rfl rfl
theorem dX12_cornerBut_71 : decode cX12_cornerBut 71 = .ok (.getfield 30, 3) := dq180 bw_cX12_cornerBut_2 23 rfl rfl rfl
theorem bw_cX12_cornerBut_3 : dq_w cX12_cornerBut 72 [0, 30, 4, 100, 46, 16, 97, 100, 172] = true := by decide +kernel
theorem dX12_cornerBut_74 : decode cX12_cornerBut 74 = .ok (.iconst 1, 1) := dq4 bw_cX12_cornerBut_3 2 rfl rfl
theorem dX12_cornerBut_75 : decode cX12_cornerBut 75 = .ok (.isub, 1) := dq100 bw_cX12_cornerBut_3 3 rfl rfl
theorem dX12_cornerBut_76 : decode cX12_cornerBut 76 = .ok (.iaload, 1) := dq46 bw_cX12_cornerBut_3 4 rfl rfl
theorem dX12_cornerBut_77 : decode cX12_cornerBut 77 = .ok (.bipush 97, 2) := dq16 bw_cX12_cornerBut_3 5 rfl rfl rfl
theorem dX12_cornerBut_79 : decode cX12_cornerBut 79 = .ok (.isub, 1) := dq100 bw_cX12_cornerBut_3 7 rfl rfl
theorem dX12_cornerBut_80 : decode cX12_cornerBut 80 = .ok (.ireturn, 1) := dq172 bw_cX12_cornerBut_3 8 rfl rfl
theorem bw_cX12_isDigit_0 : dq_w cX12_isDigit 0 [42, 180, 0, 30, 42, 180, 0, 39, 162, 0, 29, 42, 180, 0, 27, 42, 180, 0, 30, 46, 133, 20, 0, 46, 20, 0, 48] = true := by decide +kernel
theorem dX12_isDigit_0 : decode cX12_isDigit 0 = .ok (.aload_n 0, 1) := dq42 bw_cX12_isDigit_0 0 rfl rfl
theorem dX12_isDigit_1 : decode cX12_isDigit 1 = .ok (.getfield 30, 3) := dq180 bw_cX12_isDigit_0 1 rfl rfl rfl
theorem dX12_isDigit_4 : decode cX12_isDigit 4 = .ok (.aload_n 0, 1) := dq42 bw_cX12_isDigit_0 4 rfl rfl
theorem dX12_isDigit_5 : decode cX12_isDigit 5 = .ok (.getfield 39, 3) := dq180 bw_cX12_isDigit_0 5 rfl rfl rfl
theorem dX12_isDigit_8 : decode cX12_isDigit 8 = .ok (.if_icmp .ge 29, 3) := dq162 bw_cX12_isDigit_0 8 rfl rfl rfl
theorem dX12_isDigit_11 : decode cX12_isDigit 11 = .ok (.aload_n 0, 1) := dq42 bw_cX12_isDigit_0 11 rfl rfl
theorem dX12_isDigit_12 : decode cX12_isDigit 12 = .ok (.getfield 27, 3) := dq180 bw_cX12_isDigit_0 12 rfl rfl rfl
theorem dX12_isDigit_15 : decode cX12_isDigit 15 = .ok (.aload_n 0, 1) := dq42 bw_cX12_isDigit_0 15 rfl rfl
theorem dX12_isDigit_16 : decode cX12_isDigit 16 = .ok (.getfield 30, 3) := dq180 bw_cX12_isDigit_0 16 rfl rfl rfl
theorem dX12_isDigit_19 : decode cX12_isDigit 19 = .ok (.iaload, 1) := dq46 bw_cX12_isDigit_0 19 rfl rfl
theorem dX12_isDigit_20 : decode cX12_isDigit 20 = .ok (.i2l, 1) := dq133 bw_cX12_isDigit_0 20 rfl rfl
theorem dX12_isDigit_21 : decode cX12_isDigit 21 = .ok (.ldc2_w 46, 3) := dq20 bw_cX12_isDigit_0 21 rfl rfl rfl
theorem bw_cX12_isDigit_1 : dq_w cX12_isDigit 24 [20, 0, 48, 184, 0, 17, 153, 0, 7, 4, 167, 0, 4, 3, 172] = true := by decide +kernel
theorem dX12_isDigit_24 : decode cX12_isDigit 24 = .ok (.ldc2_w 48, 3) := dq20 bw_cX12_isDigit_1 0 rfl rfl rfl
theorem dX12_isDigit_27 : decode cX12_isDigit 27 = .ok (.invokestatic 17, 3) := dq184 bw_cX12_isDigit_1 3 rfl rfl rfl
theorem dX12_isDigit_30 : decode cX12_isDigit 30 = .ok (.ifCond .eq 7, 3) := dq153 bw_cX12_isDigit_1 6 rfl rfl rfl
theorem dX12_isDigit_33 : decode cX12_isDigit 33 = .ok (.iconst 1, 1) := dq4 bw_cX12_isDigit_1 9 rfl rfl
theorem dX12_isDigit_34 : decode cX12_isDigit 34 = .ok (.goto 4, 3) := dq167 bw_cX12_isDigit_1 10 rfl rfl rfl
theorem dX12_isDigit_37 : decode cX12_isDigit 37 = .ok (.iconst 0, 1) := dq3 bw_cX12_isDigit_1 13 rfl rfl
theorem dX12_isDigit_38 : decode cX12_isDigit 38 = .ok (.ireturn, 1) := dq172 bw_cX12_isDigit_1 14 rfl rfl
theorem bw_cX12_digit_0 : dq_w cX12_digit 0 [42, 182, 0, 50, 153, 0, 19, 42, 180, 0, 27, 42, 180, 0, 30, 46, 16, 48, 100, 27, 164, 0, 5, 2, 172, 42, 89] = true := by decide +kernel
theorem dX12_digit_0 : decode cX12_digit 0 = .ok (.aload_n 0, 1) := dq42 bw_cX12_digit_0 0 rfl rfl
theorem dX12_digit_1 : decode cX12_digit 1 = .ok (.invokevirtual 50, 3) := dq182 bw_cX12_digit_0 1 rfl rfl rfl
theorem dX12_digit_4 : decode cX12_digit 4 = .ok (.ifCond .eq 19, 3) := dq153 bw_cX12_digit_0 4 rfl rfl rfl
theorem dX12_digit_7 : decode cX12_digit 7 = .ok (.aload_n 0, 1) := dq42 bw_cX12_digit_0 7 rfl rfl
theorem dX12_digit_8 : decode cX12_digit 8 = .ok (.getfield 27, 3) := dq180 bw_cX12_digit_0 8 rfl rfl rfl
theorem dX12_digit_11 : decode cX12_digit 11 = .ok (.aload_n 0, 1) := dq42 bw_cX12_digit_0 11 rfl rfl
theorem dX12_digit_12 : decode cX12_digit 12 = .ok (.getfield 30, 3) := dq180 bw_cX12_digit_0 12 rfl rfl rfl
theorem dX12_digit_15 : decode cX12_digit 15 = .ok (.iaload, 1) := dq46 bw_cX12_digit_0 15 rfl rfl
theorem dX12_digit_16 : decode cX12_digit 16 = .ok (.bipush 48, 2) := dq16 bw_cX12_digit_0 16 rfl rfl rfl
theorem dX12_digit_18 : decode cX12_digit 18 = .ok (.isub, 1) := dq100 bw_cX12_digit_0 18 rfl rfl
theorem dX12_digit_19 : decode cX12_digit 19 = .ok (.iload_n 1, 1) := dq27 bw_cX12_digit_0 19 rfl rfl
theorem dX12_digit_20 : decode cX12_digit 20 = .ok (.if_icmp .le 5, 3) := dq164 bw_cX12_digit_0 20 rfl rfl rfl
theorem dX12_digit_23 : decode cX12_digit 23 = .ok (.iconst (-1), 1) := dq2 bw_cX12_digit_0 23 rfl rfl
theorem bw_cX12_digit_1 : dq_w cX12_digit 24 [172, 42, 89, 180, 0, 30, 4, 96, 181, 0, 30, 42, 180, 0, 27, 42, 180, 0, 30, 4, 100, 46, 16, 48, 100, 172] = true := by decide +kernel
theorem dX12_digit_24 : decode cX12_digit 24 = .ok (.ireturn, 1) := dq172 bw_cX12_digit_1 0 rfl rfl
theorem dX12_digit_25 : decode cX12_digit 25 = .ok (.aload_n 0, 1) := dq42 bw_cX12_digit_1 1 rfl rfl
theorem dX12_digit_26 : decode cX12_digit 26 = .ok (.dup, 1) := dq89 bw_cX12_digit_1 2 rfl rfl
theorem dX12_digit_27 : decode cX12_digit 27 = .ok (.getfield 30, 3) := dq180 bw_cX12_digit_1 3 rfl rfl rfl
theorem dX12_digit_30 : decode cX12_digit 30 = .ok (.iconst 1, 1) := dq4 bw_cX12_digit_1 6 rfl rfl
theorem dX12_digit_31 : decode cX12_digit 31 = .ok (.iadd, 1) := dq96 bw_cX12_digit_1 7 rfl rfl
theorem dX12_digit_32 : decode cX12_digit 32 = .ok (.putfield 30, 3) := dq181 bw_cX12_digit_1 8 rfl rfl rfl
theorem dX12_digit_35 : decode cX12_digit 35 = .ok (.aload_n 0, 1) := dq42 bw_cX12_digit_1 11 rfl rfl
theorem dX12_digit_36 : decode cX12_digit 36 = .ok (.getfield 27, 3) := dq180 bw_cX12_digit_1 12 rfl rfl rfl
theorem dX12_digit_39 : decode cX12_digit 39 = .ok (.aload_n 0, 1) := dq42 bw_cX12_digit_1 15 rfl rfl
theorem dX12_digit_40 : decode cX12_digit 40 = .ok (.getfield 30, 3) := dq180 bw_cX12_digit_1 16 rfl rfl rfl
theorem dX12_digit_43 : decode cX12_digit 43 = .ok (.iconst 1, 1) := dq4 bw_cX12_digit_1 19 rfl rfl
theorem dX12_digit_44 : decode cX12_digit 44 = .ok (.isub, 1) := dq100 bw_cX12_digit_1 20 rfl rfl
theorem dX12_digit_45 : decode cX12_digit 45 = .ok (.iaload, 1) := dq46 bw_cX12_digit_1 21 rfl rfl
theorem dX12_digit_46 : decode cX12_digit 46 = .ok (.bipush 48, 2) := dq16 bw_cX12_digit_1 22 rfl rfl rfl
theorem bw_cX12_digit_2 : dq_w cX12_digit 48 [100, 172] = true := by decide +kernel
theorem dX12_digit_48 : decode cX12_digit 48 = .ok (.isub, 1) := dq100 bw_cX12_digit_2 0 rfl rfl
theorem dX12_digit_49 : decode cX12_digit 49 = .ok (.ireturn, 1) := dq172 bw_cX12_digit_2 1 rfl rfl
theorem bw_cX12_number_0 : dq_w cX12_number 0 [42, 16, 9, 182, 0, 54, 62, 29, 156, 0, 5, 2, 172, 42, 182, 0, 50, 153, 0, 15, 16, 10, 29, 104, 42, 16, 9] = true := by decide +kernel
theorem dX12_number_0 : decode cX12_number 0 = .ok (.aload_n 0, 1) := dq42 bw_cX12_number_0 0 rfl rfl
theorem dX12_number_1 : decode cX12_number 1 = .ok (.bipush 9, 2) := dq16 bw_cX12_number_0 1 rfl rfl rfl
theorem dX12_number_3 : decode cX12_number 3 = .ok (.invokevirtual 54, 3) := dq182 bw_cX12_number_0 3 rfl rfl rfl
theorem dX12_number_6 : decode cX12_number 6 = .ok (.istore_n 3, 1) := dq62 bw_cX12_number_0 6 rfl rfl
theorem dX12_number_7 : decode cX12_number 7 = .ok (.iload_n 3, 1) := dq29 bw_cX12_number_0 7 rfl rfl
theorem dX12_number_8 : decode cX12_number 8 = .ok (.ifCond .ge 5, 3) := dq156 bw_cX12_number_0 8 rfl rfl rfl
theorem dX12_number_11 : decode cX12_number 11 = .ok (.iconst (-1), 1) := dq2 bw_cX12_number_0 11 rfl rfl
theorem dX12_number_12 : decode cX12_number 12 = .ok (.ireturn, 1) := dq172 bw_cX12_number_0 12 rfl rfl
theorem dX12_number_13 : decode cX12_number 13 = .ok (.aload_n 0, 1) := dq42 bw_cX12_number_0 13 rfl rfl
theorem dX12_number_14 : decode cX12_number 14 = .ok (.invokevirtual 50, 3) := dq182 bw_cX12_number_0 14 rfl rfl rfl
theorem dX12_number_17 : decode cX12_number 17 = .ok (.ifCond .eq 15, 3) := dq153 bw_cX12_number_0 17 rfl rfl rfl
theorem dX12_number_20 : decode cX12_number 20 = .ok (.bipush 10, 2) := dq16 bw_cX12_number_0 20 rfl rfl rfl
theorem dX12_number_22 : decode cX12_number 22 = .ok (.iload_n 3, 1) := dq29 bw_cX12_number_0 22 rfl rfl
theorem dX12_number_23 : decode cX12_number 23 = .ok (.imul, 1) := dq104 bw_cX12_number_0 23 rfl rfl
theorem bw_cX12_number_1 : dq_w cX12_number 24 [42, 16, 9, 182, 0, 54, 96, 62, 29, 133, 27, 133, 28, 133, 184, 0, 17, 154, 0, 15, 42, 89, 180, 0, 30, 4, 100] = true := by decide +kernel
theorem dX12_number_24 : decode cX12_number 24 = .ok (.aload_n 0, 1) := dq42 bw_cX12_number_1 0 rfl rfl
theorem dX12_number_25 : decode cX12_number 25 = .ok (.bipush 9, 2) := dq16 bw_cX12_number_1 1 rfl rfl rfl
theorem dX12_number_27 : decode cX12_number 27 = .ok (.invokevirtual 54, 3) := dq182 bw_cX12_number_1 3 rfl rfl rfl
theorem dX12_number_30 : decode cX12_number 30 = .ok (.iadd, 1) := dq96 bw_cX12_number_1 6 rfl rfl
theorem dX12_number_31 : decode cX12_number 31 = .ok (.istore_n 3, 1) := dq62 bw_cX12_number_1 7 rfl rfl
theorem dX12_number_32 : decode cX12_number 32 = .ok (.iload_n 3, 1) := dq29 bw_cX12_number_1 8 rfl rfl
theorem dX12_number_33 : decode cX12_number 33 = .ok (.i2l, 1) := dq133 bw_cX12_number_1 9 rfl rfl
theorem dX12_number_34 : decode cX12_number 34 = .ok (.iload_n 1, 1) := dq27 bw_cX12_number_1 10 rfl rfl
theorem dX12_number_35 : decode cX12_number 35 = .ok (.i2l, 1) := dq133 bw_cX12_number_1 11 rfl rfl
theorem dX12_number_36 : decode cX12_number 36 = .ok (.iload_n 2, 1) := dq28 bw_cX12_number_1 12 rfl rfl
theorem dX12_number_37 : decode cX12_number 37 = .ok (.i2l, 1) := dq133 bw_cX12_number_1 13 rfl rfl
theorem dX12_number_38 : decode cX12_number 38 = .ok (.invokestatic 17, 3) := dq184 bw_cX12_number_1 14 rfl rfl rfl
theorem dX12_number_41 : decode cX12_number 41 = .ok (.ifCond .ne 15, 3) := dq154 bw_cX12_number_1 17 rfl rfl rfl
theorem dX12_number_44 : decode cX12_number 44 = .ok (.aload_n 0, 1) := dq42 bw_cX12_number_1 20 rfl rfl
theorem dX12_number_45 : decode cX12_number 45 = .ok (.dup, 1) := dq89 bw_cX12_number_1 21 rfl rfl
theorem dX12_number_46 : decode cX12_number 46 = .ok (.getfield 30, 3) := dq180 bw_cX12_number_1 22 rfl rfl rfl
theorem bw_cX12_number_2 : dq_w cX12_number 48 [30, 4, 100, 181, 0, 30, 2, 172, 29, 172] = true := by decide +kernel
theorem dX12_number_49 : decode cX12_number 49 = .ok (.iconst 1, 1) := dq4 bw_cX12_number_2 1 rfl rfl
theorem dX12_number_50 : decode cX12_number 50 = .ok (.isub, 1) := dq100 bw_cX12_number_2 2 rfl rfl
theorem dX12_number_51 : decode cX12_number 51 = .ok (.putfield 30, 3) := dq181 bw_cX12_number_2 3 rfl rfl rfl
theorem dX12_number_54 : decode cX12_number 54 = .ok (.iconst (-1), 1) := dq2 bw_cX12_number_2 6 rfl rfl
theorem dX12_number_55 : decode cX12_number 55 = .ok (.ireturn, 1) := dq172 bw_cX12_number_2 7 rfl rfl
theorem dX12_number_56 : decode cX12_number 56 = .ok (.iload_n 3, 1) := dq29 bw_cX12_number_2 8 rfl rfl
theorem dX12_number_57 : decode cX12_number 57 = .ok (.ireturn, 1) := dq172 bw_cX12_number_2 9 rfl rfl
theorem bw_cX12_flag_0 : dq_w cX12_flag 0 [26, 153, 0, 7, 4, 167, 0, 4, 3, 172] = true := by decide +kernel
theorem dX12_flag_0 : decode cX12_flag 0 = .ok (.iload_n 0, 1) := dq26 bw_cX12_flag_0 0 rfl rfl
theorem dX12_flag_1 : decode cX12_flag 1 = .ok (.ifCond .eq 7, 3) := dq153 bw_cX12_flag_0 1 rfl rfl rfl
theorem dX12_flag_4 : decode cX12_flag 4 = .ok (.iconst 1, 1) := dq4 bw_cX12_flag_0 4 rfl rfl
theorem dX12_flag_5 : decode cX12_flag 5 = .ok (.goto 4, 3) := dq167 bw_cX12_flag_0 5 rfl rfl rfl
theorem dX12_flag_8 : decode cX12_flag 8 = .ok (.iconst 0, 1) := dq3 bw_cX12_flag_0 8 rfl rfl
theorem dX12_flag_9 : decode cX12_flag 9 = .ok (.ireturn, 1) := dq172 bw_cX12_flag_0 9 rfl rfl
theorem bw_cX12_takes_0 : dq_w cX12_takes 0 [42, 180, 0, 30, 42, 180, 0, 39, 162, 0, 20, 42, 180, 0, 27, 42, 180, 0, 30, 46, 27, 160, 0, 7, 4, 167, 0] = true := by decide +kernel
theorem dX12_takes_0 : decode cX12_takes 0 = .ok (.aload_n 0, 1) := dq42 bw_cX12_takes_0 0 rfl rfl
theorem dX12_takes_1 : decode cX12_takes 1 = .ok (.getfield 30, 3) := dq180 bw_cX12_takes_0 1 rfl rfl rfl
theorem dX12_takes_4 : decode cX12_takes 4 = .ok (.aload_n 0, 1) := dq42 bw_cX12_takes_0 4 rfl rfl
theorem dX12_takes_5 : decode cX12_takes 5 = .ok (.getfield 39, 3) := dq180 bw_cX12_takes_0 5 rfl rfl rfl
theorem dX12_takes_8 : decode cX12_takes 8 = .ok (.if_icmp .ge 20, 3) := dq162 bw_cX12_takes_0 8 rfl rfl rfl
theorem dX12_takes_11 : decode cX12_takes 11 = .ok (.aload_n 0, 1) := dq42 bw_cX12_takes_0 11 rfl rfl
theorem dX12_takes_12 : decode cX12_takes 12 = .ok (.getfield 27, 3) := dq180 bw_cX12_takes_0 12 rfl rfl rfl
theorem dX12_takes_15 : decode cX12_takes 15 = .ok (.aload_n 0, 1) := dq42 bw_cX12_takes_0 15 rfl rfl
theorem dX12_takes_16 : decode cX12_takes 16 = .ok (.getfield 30, 3) := dq180 bw_cX12_takes_0 16 rfl rfl rfl
theorem dX12_takes_19 : decode cX12_takes 19 = .ok (.iaload, 1) := dq46 bw_cX12_takes_0 19 rfl rfl
theorem dX12_takes_20 : decode cX12_takes 20 = .ok (.iload_n 1, 1) := dq27 bw_cX12_takes_0 20 rfl rfl
theorem dX12_takes_21 : decode cX12_takes 21 = .ok (.if_icmp .ne 7, 3) := dq160 bw_cX12_takes_0 21 rfl rfl rfl
theorem bw_cX12_takes_1 : dq_w cX12_takes 24 [4, 167, 0, 4, 3, 61, 42, 89, 180, 0, 30, 28, 184, 0, 42, 96, 181, 0, 30, 28, 172] = true := by decide +kernel
theorem dX12_takes_24 : decode cX12_takes 24 = .ok (.iconst 1, 1) := dq4 bw_cX12_takes_1 0 rfl rfl
theorem dX12_takes_25 : decode cX12_takes 25 = .ok (.goto 4, 3) := dq167 bw_cX12_takes_1 1 rfl rfl rfl
theorem dX12_takes_28 : decode cX12_takes 28 = .ok (.iconst 0, 1) := dq3 bw_cX12_takes_1 4 rfl rfl
theorem dX12_takes_29 : decode cX12_takes 29 = .ok (.istore_n 2, 1) := dq61 bw_cX12_takes_1 5 rfl rfl
theorem dX12_takes_30 : decode cX12_takes 30 = .ok (.aload_n 0, 1) := dq42 bw_cX12_takes_1 6 rfl rfl
theorem dX12_takes_31 : decode cX12_takes 31 = .ok (.dup, 1) := dq89 bw_cX12_takes_1 7 rfl rfl
theorem dX12_takes_32 : decode cX12_takes 32 = .ok (.getfield 30, 3) := dq180 bw_cX12_takes_1 8 rfl rfl rfl
theorem dX12_takes_35 : decode cX12_takes 35 = .ok (.iload_n 2, 1) := dq28 bw_cX12_takes_1 11 rfl rfl
theorem dX12_takes_36 : decode cX12_takes 36 = .ok (.invokestatic 42, 3) := dq184 bw_cX12_takes_1 12 rfl rfl rfl
theorem dX12_takes_39 : decode cX12_takes 39 = .ok (.iadd, 1) := dq96 bw_cX12_takes_1 15 rfl rfl
theorem dX12_takes_40 : decode cX12_takes 40 = .ok (.putfield 30, 3) := dq181 bw_cX12_takes_1 16 rfl rfl rfl
theorem dX12_takes_43 : decode cX12_takes 43 = .ok (.iload_n 2, 1) := dq28 bw_cX12_takes_1 19 rfl rfl
theorem dX12_takes_44 : decode cX12_takes 44 = .ok (.ireturn, 1) := dq172 bw_cX12_takes_1 20 rfl rfl
theorem bw_cX12_readsHedge_0 : dq_w cX12_readsHedge 0 [42, 180, 0, 71, 60, 27, 16, 14, 160, 0, 5, 3, 172, 42, 180, 0, 74, 27, 42, 2, 182, 0, 77, 79, 42, 180, 0] = true := by decide +kernel
theorem dX12_readsHedge_0 : decode cX12_readsHedge 0 = .ok (.aload_n 0, 1) := dq42 bw_cX12_readsHedge_0 0 rfl rfl
theorem dX12_readsHedge_1 : decode cX12_readsHedge 1 = .ok (.getfield 71, 3) := dq180 bw_cX12_readsHedge_0 1 rfl rfl rfl
theorem dX12_readsHedge_4 : decode cX12_readsHedge 4 = .ok (.istore_n 1, 1) := dq60 bw_cX12_readsHedge_0 4 rfl rfl
theorem dX12_readsHedge_5 : decode cX12_readsHedge 5 = .ok (.iload_n 1, 1) := dq27 bw_cX12_readsHedge_0 5 rfl rfl
theorem dX12_readsHedge_6 : decode cX12_readsHedge 6 = .ok (.bipush 14, 2) := dq16 bw_cX12_readsHedge_0 6 rfl rfl rfl
theorem dX12_readsHedge_8 : decode cX12_readsHedge 8 = .ok (.if_icmp .ne 5, 3) := dq160 bw_cX12_readsHedge_0 8 rfl rfl rfl
theorem dX12_readsHedge_11 : decode cX12_readsHedge 11 = .ok (.iconst 0, 1) := dq3 bw_cX12_readsHedge_0 11 rfl rfl
theorem dX12_readsHedge_12 : decode cX12_readsHedge 12 = .ok (.ireturn, 1) := dq172 bw_cX12_readsHedge_0 12 rfl rfl
theorem dX12_readsHedge_13 : decode cX12_readsHedge 13 = .ok (.aload_n 0, 1) := dq42 bw_cX12_readsHedge_0 13 rfl rfl
theorem dX12_readsHedge_14 : decode cX12_readsHedge 14 = .ok (.getfield 74, 3) := dq180 bw_cX12_readsHedge_0 14 rfl rfl rfl
theorem dX12_readsHedge_17 : decode cX12_readsHedge 17 = .ok (.iload_n 1, 1) := dq27 bw_cX12_readsHedge_0 17 rfl rfl
theorem dX12_readsHedge_18 : decode cX12_readsHedge 18 = .ok (.aload_n 0, 1) := dq42 bw_cX12_readsHedge_0 18 rfl rfl
theorem dX12_readsHedge_19 : decode cX12_readsHedge 19 = .ok (.iconst (-1), 1) := dq2 bw_cX12_readsHedge_0 19 rfl rfl
theorem dX12_readsHedge_20 : decode cX12_readsHedge 20 = .ok (.invokevirtual 77, 3) := dq182 bw_cX12_readsHedge_0 20 rfl rfl rfl
theorem dX12_readsHedge_23 : decode cX12_readsHedge 23 = .ok (.iastore, 1) := dq79 bw_cX12_readsHedge_0 23 rfl rfl
theorem bw_cX12_readsHedge_1 : dq_w cX12_readsHedge 24 [42, 180, 0, 74, 27, 46, 156, 0, 5, 3, 172, 42, 180, 0, 80, 27, 42, 42, 180, 0, 74, 27, 46, 182, 0, 77, 79] = true := by decide +kernel
theorem dX12_readsHedge_24 : decode cX12_readsHedge 24 = .ok (.aload_n 0, 1) := dq42 bw_cX12_readsHedge_1 0 rfl rfl
theorem dX12_readsHedge_25 : decode cX12_readsHedge 25 = .ok (.getfield 74, 3) := dq180 bw_cX12_readsHedge_1 1 rfl rfl rfl
theorem dX12_readsHedge_28 : decode cX12_readsHedge 28 = .ok (.iload_n 1, 1) := dq27 bw_cX12_readsHedge_1 4 rfl rfl
theorem dX12_readsHedge_29 : decode cX12_readsHedge 29 = .ok (.iaload, 1) := dq46 bw_cX12_readsHedge_1 5 rfl rfl
theorem dX12_readsHedge_30 : decode cX12_readsHedge 30 = .ok (.ifCond .ge 5, 3) := dq156 bw_cX12_readsHedge_1 6 rfl rfl rfl
theorem dX12_readsHedge_33 : decode cX12_readsHedge 33 = .ok (.iconst 0, 1) := dq3 bw_cX12_readsHedge_1 9 rfl rfl
theorem dX12_readsHedge_34 : decode cX12_readsHedge 34 = .ok (.ireturn, 1) := dq172 bw_cX12_readsHedge_1 10 rfl rfl
theorem dX12_readsHedge_35 : decode cX12_readsHedge 35 = .ok (.aload_n 0, 1) := dq42 bw_cX12_readsHedge_1 11 rfl rfl
theorem dX12_readsHedge_36 : decode cX12_readsHedge 36 = .ok (.getfield 80, 3) := dq180 bw_cX12_readsHedge_1 12 rfl rfl rfl
theorem dX12_readsHedge_39 : decode cX12_readsHedge 39 = .ok (.iload_n 1, 1) := dq27 bw_cX12_readsHedge_1 15 rfl rfl
theorem dX12_readsHedge_40 : decode cX12_readsHedge 40 = .ok (.aload_n 0, 1) := dq42 bw_cX12_readsHedge_1 16 rfl rfl
theorem dX12_readsHedge_41 : decode cX12_readsHedge 41 = .ok (.aload_n 0, 1) := dq42 bw_cX12_readsHedge_1 17 rfl rfl
theorem dX12_readsHedge_42 : decode cX12_readsHedge 42 = .ok (.getfield 74, 3) := dq180 bw_cX12_readsHedge_1 18 rfl rfl rfl
theorem dX12_readsHedge_45 : decode cX12_readsHedge 45 = .ok (.iload_n 1, 1) := dq27 bw_cX12_readsHedge_1 21 rfl rfl
theorem dX12_readsHedge_46 : decode cX12_readsHedge 46 = .ok (.iaload, 1) := dq46 bw_cX12_readsHedge_1 22 rfl rfl
theorem dX12_readsHedge_47 : decode cX12_readsHedge 47 = .ok (.invokevirtual 77, 3) := dq182 bw_cX12_readsHedge_1 23 rfl rfl rfl
theorem bw_cX12_readsHedge_2 : dq_w cX12_readsHedge 48 [0, 77, 79, 42, 180, 0, 80, 27, 46, 156, 0, 5, 3, 172, 42, 180, 0, 83, 27, 42, 4, 16, 20, 182, 0, 86, 79] = true := by decide +kernel
theorem dX12_readsHedge_50 : decode cX12_readsHedge 50 = .ok (.iastore, 1) := dq79 bw_cX12_readsHedge_2 2 rfl rfl
theorem dX12_readsHedge_51 : decode cX12_readsHedge 51 = .ok (.aload_n 0, 1) := dq42 bw_cX12_readsHedge_2 3 rfl rfl
theorem dX12_readsHedge_52 : decode cX12_readsHedge 52 = .ok (.getfield 80, 3) := dq180 bw_cX12_readsHedge_2 4 rfl rfl rfl
theorem dX12_readsHedge_55 : decode cX12_readsHedge 55 = .ok (.iload_n 1, 1) := dq27 bw_cX12_readsHedge_2 7 rfl rfl
theorem dX12_readsHedge_56 : decode cX12_readsHedge 56 = .ok (.iaload, 1) := dq46 bw_cX12_readsHedge_2 8 rfl rfl
theorem dX12_readsHedge_57 : decode cX12_readsHedge 57 = .ok (.ifCond .ge 5, 3) := dq156 bw_cX12_readsHedge_2 9 rfl rfl rfl
theorem dX12_readsHedge_60 : decode cX12_readsHedge 60 = .ok (.iconst 0, 1) := dq3 bw_cX12_readsHedge_2 12 rfl rfl
theorem dX12_readsHedge_61 : decode cX12_readsHedge 61 = .ok (.ireturn, 1) := dq172 bw_cX12_readsHedge_2 13 rfl rfl
theorem dX12_readsHedge_62 : decode cX12_readsHedge 62 = .ok (.aload_n 0, 1) := dq42 bw_cX12_readsHedge_2 14 rfl rfl
theorem dX12_readsHedge_63 : decode cX12_readsHedge 63 = .ok (.getfield 83, 3) := dq180 bw_cX12_readsHedge_2 15 rfl rfl rfl
theorem dX12_readsHedge_66 : decode cX12_readsHedge 66 = .ok (.iload_n 1, 1) := dq27 bw_cX12_readsHedge_2 18 rfl rfl
theorem dX12_readsHedge_67 : decode cX12_readsHedge 67 = .ok (.aload_n 0, 1) := dq42 bw_cX12_readsHedge_2 19 rfl rfl
theorem dX12_readsHedge_68 : decode cX12_readsHedge 68 = .ok (.iconst 1, 1) := dq4 bw_cX12_readsHedge_2 20 rfl rfl
theorem dX12_readsHedge_69 : decode cX12_readsHedge 69 = .ok (.bipush 20, 2) := dq16 bw_cX12_readsHedge_2 21 rfl rfl rfl
theorem dX12_readsHedge_71 : decode cX12_readsHedge 71 = .ok (.invokevirtual 86, 3) := dq182 bw_cX12_readsHedge_2 23 rfl rfl rfl
theorem bw_cX12_readsHedge_3 : dq_w cX12_readsHedge 72 [0, 86, 79, 42, 180, 0, 83, 27, 46, 155, 0, 12, 42, 16, 58, 182, 0, 61, 154, 0, 5, 3, 172, 42, 180, 0, 89] = true := by decide +kernel
theorem dX12_readsHedge_74 : decode cX12_readsHedge 74 = .ok (.iastore, 1) := dq79 bw_cX12_readsHedge_3 2 rfl rfl
theorem dX12_readsHedge_75 : decode cX12_readsHedge 75 = .ok (.aload_n 0, 1) := dq42 bw_cX12_readsHedge_3 3 rfl rfl
theorem dX12_readsHedge_76 : decode cX12_readsHedge 76 = .ok (.getfield 83, 3) := dq180 bw_cX12_readsHedge_3 4 rfl rfl rfl
theorem dX12_readsHedge_79 : decode cX12_readsHedge 79 = .ok (.iload_n 1, 1) := dq27 bw_cX12_readsHedge_3 7 rfl rfl
theorem dX12_readsHedge_80 : decode cX12_readsHedge 80 = .ok (.iaload, 1) := dq46 bw_cX12_readsHedge_3 8 rfl rfl
theorem dX12_readsHedge_81 : decode cX12_readsHedge 81 = .ok (.ifCond .lt 12, 3) := dq155 bw_cX12_readsHedge_3 9 rfl rfl rfl
theorem dX12_readsHedge_84 : decode cX12_readsHedge 84 = .ok (.aload_n 0, 1) := dq42 bw_cX12_readsHedge_3 12 rfl rfl
theorem dX12_readsHedge_85 : decode cX12_readsHedge 85 = .ok (.bipush 58, 2) := dq16 bw_cX12_readsHedge_3 13 rfl rfl rfl
theorem dX12_readsHedge_87 : decode cX12_readsHedge 87 = .ok (.invokevirtual 61, 3) := dq182 bw_cX12_readsHedge_3 15 rfl rfl rfl
theorem dX12_readsHedge_90 : decode cX12_readsHedge 90 = .ok (.ifCond .ne 5, 3) := dq154 bw_cX12_readsHedge_3 18 rfl rfl rfl
theorem dX12_readsHedge_93 : decode cX12_readsHedge 93 = .ok (.iconst 0, 1) := dq3 bw_cX12_readsHedge_3 21 rfl rfl
theorem dX12_readsHedge_94 : decode cX12_readsHedge 94 = .ok (.ireturn, 1) := dq172 bw_cX12_readsHedge_3 22 rfl rfl
theorem dX12_readsHedge_95 : decode cX12_readsHedge 95 = .ok (.aload_n 0, 1) := dq42 bw_cX12_readsHedge_3 23 rfl rfl
theorem bw_cX12_readsHedge_4 : dq_w cX12_readsHedge 96 [180, 0, 89, 27, 42, 8, 182, 0, 54, 79, 42, 180, 0, 89, 27, 46, 156, 0, 5, 3, 172, 42, 180, 0, 92, 27, 42] = true := by decide +kernel
theorem dX12_readsHedge_96 : decode cX12_readsHedge 96 = .ok (.getfield 89, 3) := dq180 bw_cX12_readsHedge_4 0 rfl rfl rfl
theorem dX12_readsHedge_99 : decode cX12_readsHedge 99 = .ok (.iload_n 1, 1) := dq27 bw_cX12_readsHedge_4 3 rfl rfl
theorem dX12_readsHedge_100 : decode cX12_readsHedge 100 = .ok (.aload_n 0, 1) := dq42 bw_cX12_readsHedge_4 4 rfl rfl
theorem dX12_readsHedge_101 : decode cX12_readsHedge 101 = .ok (.iconst 5, 1) := dq8 bw_cX12_readsHedge_4 5 rfl rfl
theorem dX12_readsHedge_102 : decode cX12_readsHedge 102 = .ok (.invokevirtual 54, 3) := dq182 bw_cX12_readsHedge_4 6 rfl rfl rfl
theorem dX12_readsHedge_105 : decode cX12_readsHedge 105 = .ok (.iastore, 1) := dq79 bw_cX12_readsHedge_4 9 rfl rfl
theorem dX12_readsHedge_106 : decode cX12_readsHedge 106 = .ok (.aload_n 0, 1) := dq42 bw_cX12_readsHedge_4 10 rfl rfl
theorem dX12_readsHedge_107 : decode cX12_readsHedge 107 = .ok (.getfield 89, 3) := dq180 bw_cX12_readsHedge_4 11 rfl rfl rfl
theorem dX12_readsHedge_110 : decode cX12_readsHedge 110 = .ok (.iload_n 1, 1) := dq27 bw_cX12_readsHedge_4 14 rfl rfl
theorem dX12_readsHedge_111 : decode cX12_readsHedge 111 = .ok (.iaload, 1) := dq46 bw_cX12_readsHedge_4 15 rfl rfl
theorem dX12_readsHedge_112 : decode cX12_readsHedge 112 = .ok (.ifCond .ge 5, 3) := dq156 bw_cX12_readsHedge_4 16 rfl rfl rfl
theorem dX12_readsHedge_115 : decode cX12_readsHedge 115 = .ok (.iconst 0, 1) := dq3 bw_cX12_readsHedge_4 19 rfl rfl
theorem dX12_readsHedge_116 : decode cX12_readsHedge 116 = .ok (.ireturn, 1) := dq172 bw_cX12_readsHedge_4 20 rfl rfl
theorem dX12_readsHedge_117 : decode cX12_readsHedge 117 = .ok (.aload_n 0, 1) := dq42 bw_cX12_readsHedge_4 21 rfl rfl
theorem dX12_readsHedge_118 : decode cX12_readsHedge 118 = .ok (.getfield 92, 3) := dq180 bw_cX12_readsHedge_4 22 rfl rfl rfl
theorem bw_cX12_readsHedge_5 : dq_w cX12_readsHedge 120 [92, 27, 42, 8, 182, 0, 54, 79, 42, 180, 0, 92, 27, 46, 156, 0, 5, 3, 172, 42, 180, 0, 95, 27, 42, 16, 119] = true := by decide +kernel
theorem dX12_readsHedge_121 : decode cX12_readsHedge 121 = .ok (.iload_n 1, 1) := dq27 bw_cX12_readsHedge_5 1 rfl rfl
theorem dX12_readsHedge_122 : decode cX12_readsHedge 122 = .ok (.aload_n 0, 1) := dq42 bw_cX12_readsHedge_5 2 rfl rfl
theorem dX12_readsHedge_123 : decode cX12_readsHedge 123 = .ok (.iconst 5, 1) := dq8 bw_cX12_readsHedge_5 3 rfl rfl
theorem dX12_readsHedge_124 : decode cX12_readsHedge 124 = .ok (.invokevirtual 54, 3) := dq182 bw_cX12_readsHedge_5 4 rfl rfl rfl
theorem dX12_readsHedge_127 : decode cX12_readsHedge 127 = .ok (.iastore, 1) := dq79 bw_cX12_readsHedge_5 7 rfl rfl
theorem dX12_readsHedge_128 : decode cX12_readsHedge 128 = .ok (.aload_n 0, 1) := dq42 bw_cX12_readsHedge_5 8 rfl rfl
theorem dX12_readsHedge_129 : decode cX12_readsHedge 129 = .ok (.getfield 92, 3) := dq180 bw_cX12_readsHedge_5 9 rfl rfl rfl
theorem dX12_readsHedge_132 : decode cX12_readsHedge 132 = .ok (.iload_n 1, 1) := dq27 bw_cX12_readsHedge_5 12 rfl rfl
theorem dX12_readsHedge_133 : decode cX12_readsHedge 133 = .ok (.iaload, 1) := dq46 bw_cX12_readsHedge_5 13 rfl rfl
theorem dX12_readsHedge_134 : decode cX12_readsHedge 134 = .ok (.ifCond .ge 5, 3) := dq156 bw_cX12_readsHedge_5 14 rfl rfl rfl
theorem dX12_readsHedge_137 : decode cX12_readsHedge 137 = .ok (.iconst 0, 1) := dq3 bw_cX12_readsHedge_5 17 rfl rfl
theorem dX12_readsHedge_138 : decode cX12_readsHedge 138 = .ok (.ireturn, 1) := dq172 bw_cX12_readsHedge_5 18 rfl rfl
theorem dX12_readsHedge_139 : decode cX12_readsHedge 139 = .ok (.aload_n 0, 1) := dq42 bw_cX12_readsHedge_5 19 rfl rfl
theorem dX12_readsHedge_140 : decode cX12_readsHedge 140 = .ok (.getfield 95, 3) := dq180 bw_cX12_readsHedge_5 20 rfl rfl rfl
theorem dX12_readsHedge_143 : decode cX12_readsHedge 143 = .ok (.iload_n 1, 1) := dq27 bw_cX12_readsHedge_5 23 rfl rfl
theorem bw_cX12_readsHedge_6 : dq_w cX12_readsHedge 144 [42, 16, 119, 182, 0, 61, 153, 0, 12, 42, 16, 9, 182, 0, 54, 167, 0, 4, 4, 79, 42, 180, 0, 95, 27, 46, 156] = true := by decide +kernel
theorem dX12_readsHedge_144 : decode cX12_readsHedge 144 = .ok (.aload_n 0, 1) := dq42 bw_cX12_readsHedge_6 0 rfl rfl
theorem dX12_readsHedge_145 : decode cX12_readsHedge 145 = .ok (.bipush 119, 2) := dq16 bw_cX12_readsHedge_6 1 rfl rfl rfl
theorem dX12_readsHedge_147 : decode cX12_readsHedge 147 = .ok (.invokevirtual 61, 3) := dq182 bw_cX12_readsHedge_6 3 rfl rfl rfl
theorem dX12_readsHedge_150 : decode cX12_readsHedge 150 = .ok (.ifCond .eq 12, 3) := dq153 bw_cX12_readsHedge_6 6 rfl rfl rfl
theorem dX12_readsHedge_153 : decode cX12_readsHedge 153 = .ok (.aload_n 0, 1) := dq42 bw_cX12_readsHedge_6 9 rfl rfl
theorem dX12_readsHedge_154 : decode cX12_readsHedge 154 = .ok (.bipush 9, 2) := dq16 bw_cX12_readsHedge_6 10 rfl rfl rfl
theorem dX12_readsHedge_156 : decode cX12_readsHedge 156 = .ok (.invokevirtual 54, 3) := dq182 bw_cX12_readsHedge_6 12 rfl rfl rfl
theorem dX12_readsHedge_159 : decode cX12_readsHedge 159 = .ok (.goto 4, 3) := dq167 bw_cX12_readsHedge_6 15 rfl rfl rfl
theorem dX12_readsHedge_162 : decode cX12_readsHedge 162 = .ok (.iconst 1, 1) := dq4 bw_cX12_readsHedge_6 18 rfl rfl
theorem dX12_readsHedge_163 : decode cX12_readsHedge 163 = .ok (.iastore, 1) := dq79 bw_cX12_readsHedge_6 19 rfl rfl
theorem dX12_readsHedge_164 : decode cX12_readsHedge 164 = .ok (.aload_n 0, 1) := dq42 bw_cX12_readsHedge_6 20 rfl rfl
theorem dX12_readsHedge_165 : decode cX12_readsHedge 165 = .ok (.getfield 95, 3) := dq180 bw_cX12_readsHedge_6 21 rfl rfl rfl
theorem bw_cX12_readsHedge_7 : dq_w cX12_readsHedge 168 [27, 46, 156, 0, 5, 3, 172, 42, 180, 0, 98, 27, 42, 16, 126, 182, 0, 61, 153, 0, 12, 42, 16, 9, 182, 0, 54] = true := by decide +kernel
theorem dX12_readsHedge_168 : decode cX12_readsHedge 168 = .ok (.iload_n 1, 1) := dq27 bw_cX12_readsHedge_7 0 rfl rfl
theorem dX12_readsHedge_169 : decode cX12_readsHedge 169 = .ok (.iaload, 1) := dq46 bw_cX12_readsHedge_7 1 rfl rfl
theorem dX12_readsHedge_170 : decode cX12_readsHedge 170 = .ok (.ifCond .ge 5, 3) := dq156 bw_cX12_readsHedge_7 2 rfl rfl rfl
theorem dX12_readsHedge_173 : decode cX12_readsHedge 173 = .ok (.iconst 0, 1) := dq3 bw_cX12_readsHedge_7 5 rfl rfl
theorem dX12_readsHedge_174 : decode cX12_readsHedge 174 = .ok (.ireturn, 1) := dq172 bw_cX12_readsHedge_7 6 rfl rfl
theorem dX12_readsHedge_175 : decode cX12_readsHedge 175 = .ok (.aload_n 0, 1) := dq42 bw_cX12_readsHedge_7 7 rfl rfl
theorem dX12_readsHedge_176 : decode cX12_readsHedge 176 = .ok (.getfield 98, 3) := dq180 bw_cX12_readsHedge_7 8 rfl rfl rfl
theorem dX12_readsHedge_179 : decode cX12_readsHedge 179 = .ok (.iload_n 1, 1) := dq27 bw_cX12_readsHedge_7 11 rfl rfl
theorem dX12_readsHedge_180 : decode cX12_readsHedge 180 = .ok (.aload_n 0, 1) := dq42 bw_cX12_readsHedge_7 12 rfl rfl
theorem dX12_readsHedge_181 : decode cX12_readsHedge 181 = .ok (.bipush 126, 2) := dq16 bw_cX12_readsHedge_7 13 rfl rfl rfl
theorem dX12_readsHedge_183 : decode cX12_readsHedge 183 = .ok (.invokevirtual 61, 3) := dq182 bw_cX12_readsHedge_7 15 rfl rfl rfl
theorem dX12_readsHedge_186 : decode cX12_readsHedge 186 = .ok (.ifCond .eq 12, 3) := dq153 bw_cX12_readsHedge_7 18 rfl rfl rfl
theorem dX12_readsHedge_189 : decode cX12_readsHedge 189 = .ok (.aload_n 0, 1) := dq42 bw_cX12_readsHedge_7 21 rfl rfl
theorem dX12_readsHedge_190 : decode cX12_readsHedge 190 = .ok (.bipush 9, 2) := dq16 bw_cX12_readsHedge_7 22 rfl rfl rfl
theorem bw_cX12_readsHedge_8 : dq_w cX12_readsHedge 192 [182, 0, 54, 167, 0, 4, 3, 79, 42, 180, 0, 98, 27, 46, 156, 0, 5, 3, 172, 42, 89, 180, 0, 101, 42, 16, 103] = true := by decide +kernel
theorem dX12_readsHedge_192 : decode cX12_readsHedge 192 = .ok (.invokevirtual 54, 3) := dq182 bw_cX12_readsHedge_8 0 rfl rfl rfl
theorem dX12_readsHedge_195 : decode cX12_readsHedge 195 = .ok (.goto 4, 3) := dq167 bw_cX12_readsHedge_8 3 rfl rfl rfl
theorem dX12_readsHedge_198 : decode cX12_readsHedge 198 = .ok (.iconst 0, 1) := dq3 bw_cX12_readsHedge_8 6 rfl rfl
theorem dX12_readsHedge_199 : decode cX12_readsHedge 199 = .ok (.iastore, 1) := dq79 bw_cX12_readsHedge_8 7 rfl rfl
theorem dX12_readsHedge_200 : decode cX12_readsHedge 200 = .ok (.aload_n 0, 1) := dq42 bw_cX12_readsHedge_8 8 rfl rfl
theorem dX12_readsHedge_201 : decode cX12_readsHedge 201 = .ok (.getfield 98, 3) := dq180 bw_cX12_readsHedge_8 9 rfl rfl rfl
theorem dX12_readsHedge_204 : decode cX12_readsHedge 204 = .ok (.iload_n 1, 1) := dq27 bw_cX12_readsHedge_8 12 rfl rfl
theorem dX12_readsHedge_205 : decode cX12_readsHedge 205 = .ok (.iaload, 1) := dq46 bw_cX12_readsHedge_8 13 rfl rfl
theorem dX12_readsHedge_206 : decode cX12_readsHedge 206 = .ok (.ifCond .ge 5, 3) := dq156 bw_cX12_readsHedge_8 14 rfl rfl rfl
theorem dX12_readsHedge_209 : decode cX12_readsHedge 209 = .ok (.iconst 0, 1) := dq3 bw_cX12_readsHedge_8 17 rfl rfl
theorem dX12_readsHedge_210 : decode cX12_readsHedge 210 = .ok (.ireturn, 1) := dq172 bw_cX12_readsHedge_8 18 rfl rfl
theorem dX12_readsHedge_211 : decode cX12_readsHedge 211 = .ok (.aload_n 0, 1) := dq42 bw_cX12_readsHedge_8 19 rfl rfl
theorem dX12_readsHedge_212 : decode cX12_readsHedge 212 = .ok (.dup, 1) := dq89 bw_cX12_readsHedge_8 20 rfl rfl
theorem dX12_readsHedge_213 : decode cX12_readsHedge 213 = .ok (.getfield 101, 3) := dq180 bw_cX12_readsHedge_8 21 rfl rfl rfl
theorem bw_cX12_readsHedge_9 : dq_w cX12_readsHedge 216 [42, 16, 103, 182, 0, 61, 153, 0, 9, 4, 27, 120, 167, 0, 4, 3, 128, 181, 0, 101, 42, 180, 0, 104, 27, 2, 79] = true := by decide +kernel
theorem dX12_readsHedge_216 : decode cX12_readsHedge 216 = .ok (.aload_n 0, 1) := dq42 bw_cX12_readsHedge_9 0 rfl rfl
theorem dX12_readsHedge_217 : decode cX12_readsHedge 217 = .ok (.bipush 103, 2) := dq16 bw_cX12_readsHedge_9 1 rfl rfl rfl
theorem dX12_readsHedge_219 : decode cX12_readsHedge 219 = .ok (.invokevirtual 61, 3) := dq182 bw_cX12_readsHedge_9 3 rfl rfl rfl
theorem dX12_readsHedge_222 : decode cX12_readsHedge 222 = .ok (.ifCond .eq 9, 3) := dq153 bw_cX12_readsHedge_9 6 rfl rfl rfl
theorem dX12_readsHedge_225 : decode cX12_readsHedge 225 = .ok (.iconst 1, 1) := dq4 bw_cX12_readsHedge_9 9 rfl rfl
theorem dX12_readsHedge_226 : decode cX12_readsHedge 226 = .ok (.iload_n 1, 1) := dq27 bw_cX12_readsHedge_9 10 rfl rfl
theorem dX12_readsHedge_227 : decode cX12_readsHedge 227 = .ok (.ishl, 1) := dq120 bw_cX12_readsHedge_9 11 rfl rfl
theorem dX12_readsHedge_228 : decode cX12_readsHedge 228 = .ok (.goto 4, 3) := dq167 bw_cX12_readsHedge_9 12 rfl rfl rfl
theorem dX12_readsHedge_231 : decode cX12_readsHedge 231 = .ok (.iconst 0, 1) := dq3 bw_cX12_readsHedge_9 15 rfl rfl
theorem dX12_readsHedge_232 : decode cX12_readsHedge 232 = .ok (.ior, 1) := dq128 bw_cX12_readsHedge_9 16 rfl rfl
theorem dX12_readsHedge_233 : decode cX12_readsHedge 233 = .ok (.putfield 101, 3) := dq181 bw_cX12_readsHedge_9 17 rfl rfl rfl
theorem dX12_readsHedge_236 : decode cX12_readsHedge 236 = .ok (.aload_n 0, 1) := dq42 bw_cX12_readsHedge_9 20 rfl rfl
theorem dX12_readsHedge_237 : decode cX12_readsHedge 237 = .ok (.getfield 104, 3) := dq180 bw_cX12_readsHedge_9 21 rfl rfl rfl
theorem bw_cX12_readsHedge_10 : dq_w cX12_readsHedge 240 [27, 2, 79, 42, 89, 180, 0, 71, 4, 96, 181, 0, 71, 4, 172] = true := by decide +kernel
theorem dX12_readsHedge_240 : decode cX12_readsHedge 240 = .ok (.iload_n 1, 1) := dq27 bw_cX12_readsHedge_10 0 rfl rfl
theorem dX12_readsHedge_241 : decode cX12_readsHedge 241 = .ok (.iconst (-1), 1) := dq2 bw_cX12_readsHedge_10 1 rfl rfl
theorem dX12_readsHedge_242 : decode cX12_readsHedge 242 = .ok (.iastore, 1) := dq79 bw_cX12_readsHedge_10 2 rfl rfl
theorem dX12_readsHedge_243 : decode cX12_readsHedge 243 = .ok (.aload_n 0, 1) := dq42 bw_cX12_readsHedge_10 3 rfl rfl
theorem dX12_readsHedge_244 : decode cX12_readsHedge 244 = .ok (.dup, 1) := dq89 bw_cX12_readsHedge_10 4 rfl rfl
theorem dX12_readsHedge_245 : decode cX12_readsHedge 245 = .ok (.getfield 71, 3) := dq180 bw_cX12_readsHedge_10 5 rfl rfl rfl
theorem dX12_readsHedge_248 : decode cX12_readsHedge 248 = .ok (.iconst 1, 1) := dq4 bw_cX12_readsHedge_10 8 rfl rfl
theorem dX12_readsHedge_249 : decode cX12_readsHedge 249 = .ok (.iadd, 1) := dq96 bw_cX12_readsHedge_10 9 rfl rfl
theorem dX12_readsHedge_250 : decode cX12_readsHedge 250 = .ok (.putfield 71, 3) := dq181 bw_cX12_readsHedge_10 10 rfl rfl rfl
theorem dX12_readsHedge_253 : decode cX12_readsHedge 253 = .ok (.iconst 1, 1) := dq4 bw_cX12_readsHedge_10 13 rfl rfl
theorem dX12_readsHedge_254 : decode cX12_readsHedge 254 = .ok (.ireturn, 1) := dq172 bw_cX12_readsHedge_10 14 rfl rfl
theorem bw_cX12_readsCorner_0 : dq_w cX12_readsCorner 0 [42, 180, 0, 58, 16, 10, 159, 0, 12, 42, 16, 64, 182, 0, 61, 154, 0, 5, 3, 172, 42, 16, 9, 182, 0, 54, 60] = true := by decide +kernel
theorem dX12_readsCorner_0 : decode cX12_readsCorner 0 = .ok (.aload_n 0, 1) := dq42 bw_cX12_readsCorner_0 0 rfl rfl
theorem dX12_readsCorner_1 : decode cX12_readsCorner 1 = .ok (.getfield 58, 3) := dq180 bw_cX12_readsCorner_0 1 rfl rfl rfl
theorem dX12_readsCorner_4 : decode cX12_readsCorner 4 = .ok (.bipush 10, 2) := dq16 bw_cX12_readsCorner_0 4 rfl rfl rfl
theorem dX12_readsCorner_6 : decode cX12_readsCorner 6 = .ok (.if_icmp .eq 12, 3) := dq159 bw_cX12_readsCorner_0 6 rfl rfl rfl
theorem dX12_readsCorner_9 : decode cX12_readsCorner 9 = .ok (.aload_n 0, 1) := dq42 bw_cX12_readsCorner_0 9 rfl rfl
theorem dX12_readsCorner_10 : decode cX12_readsCorner 10 = .ok (.bipush 64, 2) := dq16 bw_cX12_readsCorner_0 10 rfl rfl rfl
theorem dX12_readsCorner_12 : decode cX12_readsCorner 12 = .ok (.invokevirtual 61, 3) := dq182 bw_cX12_readsCorner_0 12 rfl rfl rfl
theorem dX12_readsCorner_15 : decode cX12_readsCorner 15 = .ok (.ifCond .ne 5, 3) := dq154 bw_cX12_readsCorner_0 15 rfl rfl rfl
theorem dX12_readsCorner_18 : decode cX12_readsCorner 18 = .ok (.iconst 0, 1) := dq3 bw_cX12_readsCorner_0 18 rfl rfl
theorem dX12_readsCorner_19 : decode cX12_readsCorner 19 = .ok (.ireturn, 1) := dq172 bw_cX12_readsCorner_0 19 rfl rfl
theorem dX12_readsCorner_20 : decode cX12_readsCorner 20 = .ok (.aload_n 0, 1) := dq42 bw_cX12_readsCorner_0 20 rfl rfl
theorem dX12_readsCorner_21 : decode cX12_readsCorner 21 = .ok (.bipush 9, 2) := dq16 bw_cX12_readsCorner_0 21 rfl rfl rfl
theorem dX12_readsCorner_23 : decode cX12_readsCorner 23 = .ok (.invokevirtual 54, 3) := dq182 bw_cX12_readsCorner_0 23 rfl rfl rfl
theorem bw_cX12_readsCorner_1 : dq_w cX12_readsCorner 24 [0, 54, 60, 27, 156, 0, 7, 2, 167, 0, 9, 42, 16, 9, 182, 0, 54, 61, 28, 156, 0, 5, 3, 172, 42, 180, 0] = true := by decide +kernel
theorem dX12_readsCorner_26 : decode cX12_readsCorner 26 = .ok (.istore_n 1, 1) := dq60 bw_cX12_readsCorner_1 2 rfl rfl
theorem dX12_readsCorner_27 : decode cX12_readsCorner 27 = .ok (.iload_n 1, 1) := dq27 bw_cX12_readsCorner_1 3 rfl rfl
theorem dX12_readsCorner_28 : decode cX12_readsCorner 28 = .ok (.ifCond .ge 7, 3) := dq156 bw_cX12_readsCorner_1 4 rfl rfl rfl
theorem dX12_readsCorner_31 : decode cX12_readsCorner 31 = .ok (.iconst (-1), 1) := dq2 bw_cX12_readsCorner_1 7 rfl rfl
theorem dX12_readsCorner_32 : decode cX12_readsCorner 32 = .ok (.goto 9, 3) := dq167 bw_cX12_readsCorner_1 8 rfl rfl rfl
theorem dX12_readsCorner_35 : decode cX12_readsCorner 35 = .ok (.aload_n 0, 1) := dq42 bw_cX12_readsCorner_1 11 rfl rfl
theorem dX12_readsCorner_36 : decode cX12_readsCorner 36 = .ok (.bipush 9, 2) := dq16 bw_cX12_readsCorner_1 12 rfl rfl rfl
theorem dX12_readsCorner_38 : decode cX12_readsCorner 38 = .ok (.invokevirtual 54, 3) := dq182 bw_cX12_readsCorner_1 14 rfl rfl rfl
theorem dX12_readsCorner_41 : decode cX12_readsCorner 41 = .ok (.istore_n 2, 1) := dq61 bw_cX12_readsCorner_1 17 rfl rfl
theorem dX12_readsCorner_42 : decode cX12_readsCorner 42 = .ok (.iload_n 2, 1) := dq28 bw_cX12_readsCorner_1 18 rfl rfl
theorem dX12_readsCorner_43 : decode cX12_readsCorner 43 = .ok (.ifCond .ge 5, 3) := dq156 bw_cX12_readsCorner_1 19 rfl rfl rfl
theorem dX12_readsCorner_46 : decode cX12_readsCorner 46 = .ok (.iconst 0, 1) := dq3 bw_cX12_readsCorner_1 22 rfl rfl
theorem dX12_readsCorner_47 : decode cX12_readsCorner 47 = .ok (.ireturn, 1) := dq172 bw_cX12_readsCorner_1 23 rfl rfl
theorem bw_cX12_readsCorner_2 : dq_w cX12_readsCorner 48 [42, 180, 0, 65, 42, 180, 0, 58, 27, 79, 42, 180, 0, 68, 42, 180, 0, 58, 28, 79, 42, 89, 180, 0, 58, 4, 96] = true := by decide +kernel
theorem dX12_readsCorner_48 : decode cX12_readsCorner 48 = .ok (.aload_n 0, 1) := dq42 bw_cX12_readsCorner_2 0 rfl rfl
theorem dX12_readsCorner_49 : decode cX12_readsCorner 49 = .ok (.getfield 65, 3) := dq180 bw_cX12_readsCorner_2 1 rfl rfl rfl
theorem dX12_readsCorner_52 : decode cX12_readsCorner 52 = .ok (.aload_n 0, 1) := dq42 bw_cX12_readsCorner_2 4 rfl rfl
theorem dX12_readsCorner_53 : decode cX12_readsCorner 53 = .ok (.getfield 58, 3) := dq180 bw_cX12_readsCorner_2 5 rfl rfl rfl
theorem dX12_readsCorner_56 : decode cX12_readsCorner 56 = .ok (.iload_n 1, 1) := dq27 bw_cX12_readsCorner_2 8 rfl rfl
theorem dX12_readsCorner_57 : decode cX12_readsCorner 57 = .ok (.iastore, 1) := dq79 bw_cX12_readsCorner_2 9 rfl rfl
theorem dX12_readsCorner_58 : decode cX12_readsCorner 58 = .ok (.aload_n 0, 1) := dq42 bw_cX12_readsCorner_2 10 rfl rfl
theorem dX12_readsCorner_59 : decode cX12_readsCorner 59 = .ok (.getfield 68, 3) := dq180 bw_cX12_readsCorner_2 11 rfl rfl rfl
theorem dX12_readsCorner_62 : decode cX12_readsCorner 62 = .ok (.aload_n 0, 1) := dq42 bw_cX12_readsCorner_2 14 rfl rfl
theorem dX12_readsCorner_63 : decode cX12_readsCorner 63 = .ok (.getfield 58, 3) := dq180 bw_cX12_readsCorner_2 15 rfl rfl rfl
theorem dX12_readsCorner_66 : decode cX12_readsCorner 66 = .ok (.iload_n 2, 1) := dq28 bw_cX12_readsCorner_2 18 rfl rfl
theorem dX12_readsCorner_67 : decode cX12_readsCorner 67 = .ok (.iastore, 1) := dq79 bw_cX12_readsCorner_2 19 rfl rfl
theorem dX12_readsCorner_68 : decode cX12_readsCorner 68 = .ok (.aload_n 0, 1) := dq42 bw_cX12_readsCorner_2 20 rfl rfl
theorem dX12_readsCorner_69 : decode cX12_readsCorner 69 = .ok (.dup, 1) := dq89 bw_cX12_readsCorner_2 21 rfl rfl
theorem dX12_readsCorner_70 : decode cX12_readsCorner 70 = .ok (.getfield 58, 3) := dq180 bw_cX12_readsCorner_2 22 rfl rfl rfl
theorem bw_cX12_readsCorner_3 : dq_w cX12_readsCorner 72 [58, 4, 96, 181, 0, 58, 4, 172] = true := by decide +kernel
theorem dX12_readsCorner_73 : decode cX12_readsCorner 73 = .ok (.iconst 1, 1) := dq4 bw_cX12_readsCorner_3 1 rfl rfl
theorem dX12_readsCorner_74 : decode cX12_readsCorner 74 = .ok (.iadd, 1) := dq96 bw_cX12_readsCorner_3 2 rfl rfl
theorem dX12_readsCorner_75 : decode cX12_readsCorner 75 = .ok (.putfield 58, 3) := dq181 bw_cX12_readsCorner_3 3 rfl rfl rfl
theorem dX12_readsCorner_78 : decode cX12_readsCorner 78 = .ok (.iconst 1, 1) := dq4 bw_cX12_readsCorner_3 6 rfl rfl
theorem dX12_readsCorner_79 : decode cX12_readsCorner 79 = .ok (.ireturn, 1) := dq172 bw_cX12_readsCorner_3 7 rfl rfl
theorem bw_cX12_land_0 : dq_w cX12_land 0 [42, 3, 181, 0, 3, 42, 16, 76, 182, 0, 107, 60, 42, 42, 180, 0, 14, 181, 0, 58, 42, 42, 180, 0, 21, 181, 0] = true := by decide +kernel
theorem dX12_land_0 : decode cX12_land 0 = .ok (.aload_n 0, 1) := dq42 bw_cX12_land_0 0 rfl rfl
theorem dX12_land_1 : decode cX12_land 1 = .ok (.iconst 0, 1) := dq3 bw_cX12_land_0 1 rfl rfl
theorem dX12_land_2 : decode cX12_land 2 = .ok (.putfield 3, 3) := dq181 bw_cX12_land_0 2 rfl rfl rfl
theorem dX12_land_5 : decode cX12_land 5 = .ok (.aload_n 0, 1) := dq42 bw_cX12_land_0 5 rfl rfl
theorem dX12_land_6 : decode cX12_land 6 = .ok (.bipush 76, 2) := dq16 bw_cX12_land_0 6 rfl rfl rfl
theorem dX12_land_8 : decode cX12_land 8 = .ok (.invokevirtual 107, 3) := dq182 bw_cX12_land_0 8 rfl rfl rfl
theorem dX12_land_11 : decode cX12_land 11 = .ok (.istore_n 1, 1) := dq60 bw_cX12_land_0 11 rfl rfl
theorem dX12_land_12 : decode cX12_land 12 = .ok (.aload_n 0, 1) := dq42 bw_cX12_land_0 12 rfl rfl
theorem dX12_land_13 : decode cX12_land 13 = .ok (.aload_n 0, 1) := dq42 bw_cX12_land_0 13 rfl rfl
theorem dX12_land_14 : decode cX12_land 14 = .ok (.getfield 14, 3) := dq180 bw_cX12_land_0 14 rfl rfl rfl
theorem dX12_land_17 : decode cX12_land 17 = .ok (.putfield 58, 3) := dq181 bw_cX12_land_0 17 rfl rfl rfl
theorem dX12_land_20 : decode cX12_land 20 = .ok (.aload_n 0, 1) := dq42 bw_cX12_land_0 20 rfl rfl
theorem dX12_land_21 : decode cX12_land 21 = .ok (.aload_n 0, 1) := dq42 bw_cX12_land_0 21 rfl rfl
theorem dX12_land_22 : decode cX12_land 22 = .ok (.getfield 21, 3) := dq180 bw_cX12_land_0 22 rfl rfl rfl
theorem bw_cX12_land_1 : dq_w cX12_land 24 [21, 181, 0, 71, 42, 3, 181, 0, 101, 3, 61, 4, 62, 27, 158, 0, 7, 4, 167, 0, 4, 3, 54, 4, 21, 4, 153] = true := by decide +kernel
theorem dX12_land_25 : decode cX12_land 25 = .ok (.putfield 71, 3) := dq181 bw_cX12_land_1 1 rfl rfl rfl
theorem dX12_land_28 : decode cX12_land 28 = .ok (.aload_n 0, 1) := dq42 bw_cX12_land_1 4 rfl rfl
theorem dX12_land_29 : decode cX12_land 29 = .ok (.iconst 0, 1) := dq3 bw_cX12_land_1 5 rfl rfl
theorem dX12_land_30 : decode cX12_land 30 = .ok (.putfield 101, 3) := dq181 bw_cX12_land_1 6 rfl rfl rfl
theorem dX12_land_33 : decode cX12_land 33 = .ok (.iconst 0, 1) := dq3 bw_cX12_land_1 9 rfl rfl
theorem dX12_land_34 : decode cX12_land 34 = .ok (.istore_n 2, 1) := dq61 bw_cX12_land_1 10 rfl rfl
theorem dX12_land_35 : decode cX12_land 35 = .ok (.iconst 1, 1) := dq4 bw_cX12_land_1 11 rfl rfl
theorem dX12_land_36 : decode cX12_land 36 = .ok (.istore_n 3, 1) := dq62 bw_cX12_land_1 12 rfl rfl
theorem dX12_land_37 : decode cX12_land 37 = .ok (.iload_n 1, 1) := dq27 bw_cX12_land_1 13 rfl rfl
theorem dX12_land_38 : decode cX12_land 38 = .ok (.ifCond .le 7, 3) := dq158 bw_cX12_land_1 14 rfl rfl rfl
theorem dX12_land_41 : decode cX12_land 41 = .ok (.iconst 1, 1) := dq4 bw_cX12_land_1 17 rfl rfl
theorem dX12_land_42 : decode cX12_land 42 = .ok (.goto 4, 3) := dq167 bw_cX12_land_1 18 rfl rfl rfl
theorem dX12_land_45 : decode cX12_land 45 = .ok (.iconst 0, 1) := dq3 bw_cX12_land_1 21 rfl rfl
theorem dX12_land_46 : decode cX12_land 46 = .ok (.istore 4, 2) := dq54 bw_cX12_land_1 22 rfl rfl
theorem bw_cX12_land_2 : dq_w cX12_land 48 [21, 4, 153, 0, 50, 42, 16, 64, 182, 0, 110, 153, 0, 10, 42, 182, 0, 113, 167, 0, 7, 42, 182, 0, 116, 62, 132] = true := by decide +kernel
theorem dX12_land_48 : decode cX12_land 48 = .ok (.iload 4, 2) := dq21 bw_cX12_land_2 0 rfl rfl
theorem dX12_land_50 : decode cX12_land 50 = .ok (.ifCond .eq 50, 3) := dq153 bw_cX12_land_2 2 rfl rfl rfl
theorem dX12_land_53 : decode cX12_land 53 = .ok (.aload_n 0, 1) := dq42 bw_cX12_land_2 5 rfl rfl
theorem dX12_land_54 : decode cX12_land 54 = .ok (.bipush 64, 2) := dq16 bw_cX12_land_2 6 rfl rfl rfl
theorem dX12_land_56 : decode cX12_land 56 = .ok (.invokevirtual 110, 3) := dq182 bw_cX12_land_2 8 rfl rfl rfl
theorem dX12_land_59 : decode cX12_land 59 = .ok (.ifCond .eq 10, 3) := dq153 bw_cX12_land_2 11 rfl rfl rfl
theorem dX12_land_62 : decode cX12_land 62 = .ok (.aload_n 0, 1) := dq42 bw_cX12_land_2 14 rfl rfl
theorem dX12_land_63 : decode cX12_land 63 = .ok (.invokevirtual 113, 3) := dq182 bw_cX12_land_2 15 rfl rfl rfl
theorem dX12_land_66 : decode cX12_land 66 = .ok (.goto 7, 3) := dq167 bw_cX12_land_2 18 rfl rfl rfl
theorem dX12_land_69 : decode cX12_land 69 = .ok (.aload_n 0, 1) := dq42 bw_cX12_land_2 21 rfl rfl
theorem dX12_land_70 : decode cX12_land 70 = .ok (.invokevirtual 116, 3) := dq182 bw_cX12_land_2 22 rfl rfl rfl
theorem bw_cX12_land_3 : dq_w cX12_land 72 [116, 62, 132, 2, 1, 29, 153, 0, 16, 42, 16, 59, 182, 0, 61, 153, 0, 7, 4, 167, 0, 4, 3, 54, 4, 167, 255] = true := by decide +kernel
theorem dX12_land_73 : decode cX12_land 73 = .ok (.istore_n 3, 1) := dq62 bw_cX12_land_3 1 rfl rfl
theorem dX12_land_74 : decode cX12_land 74 = .ok (.iinc 2 1, 3) := dq132 bw_cX12_land_3 2 rfl rfl rfl
theorem dX12_land_77 : decode cX12_land 77 = .ok (.iload_n 3, 1) := dq29 bw_cX12_land_3 5 rfl rfl
theorem dX12_land_78 : decode cX12_land 78 = .ok (.ifCond .eq 16, 3) := dq153 bw_cX12_land_3 6 rfl rfl rfl
theorem dX12_land_81 : decode cX12_land 81 = .ok (.aload_n 0, 1) := dq42 bw_cX12_land_3 9 rfl rfl
theorem dX12_land_82 : decode cX12_land 82 = .ok (.bipush 59, 2) := dq16 bw_cX12_land_3 10 rfl rfl rfl
theorem dX12_land_84 : decode cX12_land 84 = .ok (.invokevirtual 61, 3) := dq182 bw_cX12_land_3 12 rfl rfl rfl
theorem dX12_land_87 : decode cX12_land 87 = .ok (.ifCond .eq 7, 3) := dq153 bw_cX12_land_3 15 rfl rfl rfl
theorem dX12_land_90 : decode cX12_land 90 = .ok (.iconst 1, 1) := dq4 bw_cX12_land_3 18 rfl rfl
theorem dX12_land_91 : decode cX12_land 91 = .ok (.goto 4, 3) := dq167 bw_cX12_land_3 19 rfl rfl rfl
theorem dX12_land_94 : decode cX12_land 94 = .ok (.iconst 0, 1) := dq3 bw_cX12_land_3 22 rfl rfl
theorem dX12_land_95 : decode cX12_land 95 = .ok (.istore 4, 2) := dq54 bw_cX12_land_3 23 rfl rfl
theorem bw_cX12_land_4 : dq_w cX12_land 96 [4, 167, 255, 207, 42, 27, 16, 76, 29, 182, 0, 119, 54, 5, 21, 5, 156, 0, 6, 21, 5, 172, 42, 42, 180, 0, 58] = true := by decide +kernel
theorem dX12_land_97 : decode cX12_land 97 = .ok (.goto (-49), 3) := dq167 bw_cX12_land_4 1 rfl rfl rfl
theorem dX12_land_100 : decode cX12_land 100 = .ok (.aload_n 0, 1) := dq42 bw_cX12_land_4 4 rfl rfl
theorem dX12_land_101 : decode cX12_land 101 = .ok (.iload_n 1, 1) := dq27 bw_cX12_land_4 5 rfl rfl
theorem dX12_land_102 : decode cX12_land 102 = .ok (.bipush 76, 2) := dq16 bw_cX12_land_4 6 rfl rfl rfl
theorem dX12_land_104 : decode cX12_land 104 = .ok (.iload_n 3, 1) := dq29 bw_cX12_land_4 8 rfl rfl
theorem dX12_land_105 : decode cX12_land 105 = .ok (.invokevirtual 119, 3) := dq182 bw_cX12_land_4 9 rfl rfl rfl
theorem dX12_land_108 : decode cX12_land 108 = .ok (.istore 5, 2) := dq54 bw_cX12_land_4 12 rfl rfl
theorem dX12_land_110 : decode cX12_land 110 = .ok (.iload 5, 2) := dq21 bw_cX12_land_4 14 rfl rfl
theorem dX12_land_112 : decode cX12_land 112 = .ok (.ifCond .ge 6, 3) := dq156 bw_cX12_land_4 16 rfl rfl rfl
theorem dX12_land_115 : decode cX12_land 115 = .ok (.iload 5, 2) := dq21 bw_cX12_land_4 19 rfl rfl
theorem dX12_land_117 : decode cX12_land 117 = .ok (.ireturn, 1) := dq172 bw_cX12_land_4 21 rfl rfl
theorem dX12_land_118 : decode cX12_land 118 = .ok (.aload_n 0, 1) := dq42 bw_cX12_land_4 22 rfl rfl
theorem dX12_land_119 : decode cX12_land 119 = .ok (.aload_n 0, 1) := dq42 bw_cX12_land_4 23 rfl rfl
theorem bw_cX12_land_5 : dq_w cX12_land 120 [180, 0, 58, 181, 0, 14, 42, 42, 180, 0, 71, 181, 0, 21, 42, 89, 180, 0, 123, 42, 180, 0, 101, 128, 181, 0, 123] = true := by decide +kernel
theorem dX12_land_120 : decode cX12_land 120 = .ok (.getfield 58, 3) := dq180 bw_cX12_land_5 0 rfl rfl rfl
theorem dX12_land_123 : decode cX12_land 123 = .ok (.putfield 14, 3) := dq181 bw_cX12_land_5 3 rfl rfl rfl
theorem dX12_land_126 : decode cX12_land 126 = .ok (.aload_n 0, 1) := dq42 bw_cX12_land_5 6 rfl rfl
theorem dX12_land_127 : decode cX12_land 127 = .ok (.aload_n 0, 1) := dq42 bw_cX12_land_5 7 rfl rfl
theorem dX12_land_128 : decode cX12_land 128 = .ok (.getfield 71, 3) := dq180 bw_cX12_land_5 8 rfl rfl rfl
theorem dX12_land_131 : decode cX12_land 131 = .ok (.putfield 21, 3) := dq181 bw_cX12_land_5 11 rfl rfl rfl
theorem dX12_land_134 : decode cX12_land 134 = .ok (.aload_n 0, 1) := dq42 bw_cX12_land_5 14 rfl rfl
theorem dX12_land_135 : decode cX12_land 135 = .ok (.dup, 1) := dq89 bw_cX12_land_5 15 rfl rfl
theorem dX12_land_136 : decode cX12_land 136 = .ok (.getfield 123, 3) := dq180 bw_cX12_land_5 16 rfl rfl rfl
theorem dX12_land_139 : decode cX12_land 139 = .ok (.aload_n 0, 1) := dq42 bw_cX12_land_5 19 rfl rfl
theorem dX12_land_140 : decode cX12_land 140 = .ok (.getfield 101, 3) := dq180 bw_cX12_land_5 20 rfl rfl rfl
theorem dX12_land_143 : decode cX12_land 143 = .ok (.ior, 1) := dq128 bw_cX12_land_5 23 rfl rfl
theorem bw_cX12_land_6 : dq_w cX12_land 144 [181, 0, 123, 42, 27, 158, 0, 7, 3, 167, 0, 7, 42, 180, 0, 126, 181, 0, 126, 28, 172] = true := by decide +kernel
theorem dX12_land_144 : decode cX12_land 144 = .ok (.putfield 123, 3) := dq181 bw_cX12_land_6 0 rfl rfl rfl
theorem dX12_land_147 : decode cX12_land 147 = .ok (.aload_n 0, 1) := dq42 bw_cX12_land_6 3 rfl rfl
theorem dX12_land_148 : decode cX12_land 148 = .ok (.iload_n 1, 1) := dq27 bw_cX12_land_6 4 rfl rfl
theorem dX12_land_149 : decode cX12_land 149 = .ok (.ifCond .le 7, 3) := dq158 bw_cX12_land_6 5 rfl rfl rfl
theorem dX12_land_152 : decode cX12_land 152 = .ok (.iconst 0, 1) := dq3 bw_cX12_land_6 8 rfl rfl
theorem dX12_land_153 : decode cX12_land 153 = .ok (.goto 7, 3) := dq167 bw_cX12_land_6 9 rfl rfl rfl
theorem dX12_land_156 : decode cX12_land 156 = .ok (.aload_n 0, 1) := dq42 bw_cX12_land_6 12 rfl rfl
theorem dX12_land_157 : decode cX12_land 157 = .ok (.getfield 126, 3) := dq180 bw_cX12_land_6 13 rfl rfl rfl
theorem dX12_land_160 : decode cX12_land 160 = .ok (.putfield 126, 3) := dq181 bw_cX12_land_6 16 rfl rfl rfl
theorem dX12_land_163 : decode cX12_land 163 = .ok (.iload_n 2, 1) := dq28 bw_cX12_land_6 19 rfl rfl
theorem dX12_land_164 : decode cX12_land 164 = .ok (.ireturn, 1) := dq172 bw_cX12_land_6 20 rfl rfl
theorem bw_cX12_isHedge_0 : dq_w cX12_isHedge 0 [27, 133, 9, 42, 180, 0, 21, 4, 100, 133, 184, 0, 17, 172] = true := by decide +kernel
theorem dX12_isHedge_0 : decode cX12_isHedge 0 = .ok (.iload_n 1, 1) := dq27 bw_cX12_isHedge_0 0 rfl rfl
theorem dX12_isHedge_1 : decode cX12_isHedge 1 = .ok (.i2l, 1) := dq133 bw_cX12_isHedge_0 1 rfl rfl
theorem dX12_isHedge_2 : decode cX12_isHedge 2 = .ok (.lconst 0, 1) := dq9 bw_cX12_isHedge_0 2 rfl rfl
theorem dX12_isHedge_3 : decode cX12_isHedge 3 = .ok (.aload_n 0, 1) := dq42 bw_cX12_isHedge_0 3 rfl rfl
theorem dX12_isHedge_4 : decode cX12_isHedge 4 = .ok (.getfield 21, 3) := dq180 bw_cX12_isHedge_0 4 rfl rfl rfl
theorem dX12_isHedge_7 : decode cX12_isHedge 7 = .ok (.iconst 1, 1) := dq4 bw_cX12_isHedge_0 7 rfl rfl
theorem dX12_isHedge_8 : decode cX12_isHedge 8 = .ok (.isub, 1) := dq100 bw_cX12_isHedge_0 8 rfl rfl
theorem dX12_isHedge_9 : decode cX12_isHedge 9 = .ok (.i2l, 1) := dq133 bw_cX12_isHedge_0 9 rfl rfl
theorem dX12_isHedge_10 : decode cX12_isHedge 10 = .ok (.invokestatic 17, 3) := dq184 bw_cX12_isHedge_0 10 rfl rfl rfl
theorem dX12_isHedge_13 : decode cX12_isHedge 13 = .ok (.ireturn, 1) := dq172 bw_cX12_isHedge_0 13 rfl rfl
theorem bw_cX12_refuse_0 : dq_w cX12_refuse 0 [42, 4, 181, 0, 3, 3, 172] = true := by decide +kernel
theorem dX12_refuse_0 : decode cX12_refuse 0 = .ok (.aload_n 0, 1) := dq42 bw_cX12_refuse_0 0 rfl rfl
theorem dX12_refuse_1 : decode cX12_refuse 1 = .ok (.iconst 1, 1) := dq4 bw_cX12_refuse_0 1 rfl rfl
theorem dX12_refuse_2 : decode cX12_refuse 2 = .ok (.putfield 3, 3) := dq181 bw_cX12_refuse_0 2 rfl rfl rfl
theorem dX12_refuse_5 : decode cX12_refuse 5 = .ok (.iconst 0, 1) := dq3 bw_cX12_refuse_0 5 rfl rfl
theorem dX12_refuse_6 : decode cX12_refuse 6 = .ok (.ireturn, 1) := dq172 bw_cX12_refuse_0 6 rfl rfl
theorem bw_cX12_has_0 : dq_w cX12_has 0 [26, 27, 122, 4, 126, 4, 160, 0, 7, 4, 167, 0, 4, 3, 172] = true := by decide +kernel
theorem dX12_has_0 : decode cX12_has 0 = .ok (.iload_n 0, 1) := dq26 bw_cX12_has_0 0 rfl rfl
theorem dX12_has_1 : decode cX12_has 1 = .ok (.iload_n 1, 1) := dq27 bw_cX12_has_0 1 rfl rfl
theorem dX12_has_2 : decode cX12_has 2 = .ok (.ishr, 1) := dq122 bw_cX12_has_0 2 rfl rfl
theorem dX12_has_3 : decode cX12_has 3 = .ok (.iconst 1, 1) := dq4 bw_cX12_has_0 3 rfl rfl
theorem dX12_has_4 : decode cX12_has 4 = .ok (.iand, 1) := dq126 bw_cX12_has_0 4 rfl rfl
theorem dX12_has_5 : decode cX12_has 5 = .ok (.iconst 1, 1) := dq4 bw_cX12_has_0 5 rfl rfl
theorem dX12_has_6 : decode cX12_has 6 = .ok (.if_icmp .ne 7, 3) := dq160 bw_cX12_has_0 6 rfl rfl rfl
theorem dX12_has_9 : decode cX12_has 9 = .ok (.iconst 1, 1) := dq4 bw_cX12_has_0 9 rfl rfl
theorem dX12_has_10 : decode cX12_has 10 = .ok (.goto 4, 3) := dq167 bw_cX12_has_0 10 rfl rfl rfl
theorem dX12_has_13 : decode cX12_has 13 = .ok (.iconst 0, 1) := dq3 bw_cX12_has_0 13 rfl rfl
theorem dX12_has_14 : decode cX12_has 14 = .ok (.ireturn, 1) := dq172 bw_cX12_has_0 14 rfl rfl
theorem bw_cX12_dayOf_0 : dq_w cX12_dayOf 0 [26, 16, 60, 108, 172] = true := by decide +kernel
theorem dX12_dayOf_0 : decode cX12_dayOf 0 = .ok (.iload_n 0, 1) := dq26 bw_cX12_dayOf_0 0 rfl rfl
theorem dX12_dayOf_1 : decode cX12_dayOf 1 = .ok (.bipush 60, 2) := dq16 bw_cX12_dayOf_0 1 rfl rfl rfl
theorem dX12_dayOf_3 : decode cX12_dayOf 3 = .ok (.idiv, 1) := dq108 bw_cX12_dayOf_0 3 rfl rfl
theorem dX12_dayOf_4 : decode cX12_dayOf 4 = .ok (.ireturn, 1) := dq172 bw_cX12_dayOf_0 4 rfl rfl
theorem bw_cX12_isFresh_0 : dq_w cX12_isFresh 0 [42, 180, 0, 104, 27, 46, 155, 0, 21, 28, 184, 0, 129, 42, 180, 0, 104, 27, 46, 100, 42, 180, 0, 132, 161, 0, 7] = true := by decide +kernel
theorem dX12_isFresh_0 : decode cX12_isFresh 0 = .ok (.aload_n 0, 1) := dq42 bw_cX12_isFresh_0 0 rfl rfl
theorem dX12_isFresh_1 : decode cX12_isFresh 1 = .ok (.getfield 104, 3) := dq180 bw_cX12_isFresh_0 1 rfl rfl rfl
theorem dX12_isFresh_4 : decode cX12_isFresh 4 = .ok (.iload_n 1, 1) := dq27 bw_cX12_isFresh_0 4 rfl rfl
theorem dX12_isFresh_5 : decode cX12_isFresh 5 = .ok (.iaload, 1) := dq46 bw_cX12_isFresh_0 5 rfl rfl
theorem dX12_isFresh_6 : decode cX12_isFresh 6 = .ok (.ifCond .lt 21, 3) := dq155 bw_cX12_isFresh_0 6 rfl rfl rfl
theorem dX12_isFresh_9 : decode cX12_isFresh 9 = .ok (.iload_n 2, 1) := dq28 bw_cX12_isFresh_0 9 rfl rfl
theorem dX12_isFresh_10 : decode cX12_isFresh 10 = .ok (.invokestatic 129, 3) := dq184 bw_cX12_isFresh_0 10 rfl rfl rfl
theorem dX12_isFresh_13 : decode cX12_isFresh 13 = .ok (.aload_n 0, 1) := dq42 bw_cX12_isFresh_0 13 rfl rfl
theorem dX12_isFresh_14 : decode cX12_isFresh 14 = .ok (.getfield 104, 3) := dq180 bw_cX12_isFresh_0 14 rfl rfl rfl
theorem dX12_isFresh_17 : decode cX12_isFresh 17 = .ok (.iload_n 1, 1) := dq27 bw_cX12_isFresh_0 17 rfl rfl
theorem dX12_isFresh_18 : decode cX12_isFresh 18 = .ok (.iaload, 1) := dq46 bw_cX12_isFresh_0 18 rfl rfl
theorem dX12_isFresh_19 : decode cX12_isFresh 19 = .ok (.isub, 1) := dq100 bw_cX12_isFresh_0 19 rfl rfl
theorem dX12_isFresh_20 : decode cX12_isFresh 20 = .ok (.aload_n 0, 1) := dq42 bw_cX12_isFresh_0 20 rfl rfl
theorem dX12_isFresh_21 : decode cX12_isFresh 21 = .ok (.getfield 132, 3) := dq180 bw_cX12_isFresh_0 21 rfl rfl rfl
theorem bw_cX12_isFresh_1 : dq_w cX12_isFresh 24 [161, 0, 7, 4, 167, 0, 4, 3, 172] = true := by decide +kernel
theorem dX12_isFresh_24 : decode cX12_isFresh 24 = .ok (.if_icmp .lt 7, 3) := dq161 bw_cX12_isFresh_1 0 rfl rfl rfl
theorem dX12_isFresh_27 : decode cX12_isFresh 27 = .ok (.iconst 1, 1) := dq4 bw_cX12_isFresh_1 3 rfl rfl
theorem dX12_isFresh_28 : decode cX12_isFresh 28 = .ok (.goto 4, 3) := dq167 bw_cX12_isFresh_1 4 rfl rfl rfl
theorem dX12_isFresh_31 : decode cX12_isFresh 31 = .ok (.iconst 0, 1) := dq3 bw_cX12_isFresh_1 7 rfl rfl
theorem dX12_isFresh_32 : decode cX12_isFresh 32 = .ok (.ireturn, 1) := dq172 bw_cX12_isFresh_1 8 rfl rfl
theorem bw_cX12_hedge_0 : dq_w cX12_hedge 0 [42, 3, 181, 0, 3, 42, 27, 182, 0, 135, 153, 0, 15, 28, 133, 9, 20, 0, 138, 184, 0, 17, 154, 0, 8, 42, 182] = true := by decide +kernel
theorem dX12_hedge_0 : decode cX12_hedge 0 = .ok (.aload_n 0, 1) := dq42 bw_cX12_hedge_0 0 rfl rfl
theorem dX12_hedge_1 : decode cX12_hedge 1 = .ok (.iconst 0, 1) := dq3 bw_cX12_hedge_0 1 rfl rfl
theorem dX12_hedge_2 : decode cX12_hedge 2 = .ok (.putfield 3, 3) := dq181 bw_cX12_hedge_0 2 rfl rfl rfl
theorem dX12_hedge_5 : decode cX12_hedge 5 = .ok (.aload_n 0, 1) := dq42 bw_cX12_hedge_0 5 rfl rfl
theorem dX12_hedge_6 : decode cX12_hedge 6 = .ok (.iload_n 1, 1) := dq27 bw_cX12_hedge_0 6 rfl rfl
theorem dX12_hedge_7 : decode cX12_hedge 7 = .ok (.invokevirtual 135, 3) := dq182 bw_cX12_hedge_0 7 rfl rfl rfl
theorem dX12_hedge_10 : decode cX12_hedge 10 = .ok (.ifCond .eq 15, 3) := dq153 bw_cX12_hedge_0 10 rfl rfl rfl
theorem dX12_hedge_13 : decode cX12_hedge 13 = .ok (.iload_n 2, 1) := dq28 bw_cX12_hedge_0 13 rfl rfl
theorem dX12_hedge_14 : decode cX12_hedge 14 = .ok (.i2l, 1) := dq133 bw_cX12_hedge_0 14 rfl rfl
theorem dX12_hedge_15 : decode cX12_hedge 15 = .ok (.lconst 0, 1) := dq9 bw_cX12_hedge_0 15 rfl rfl
theorem dX12_hedge_16 : decode cX12_hedge 16 = .ok (.ldc2_w 138, 3) := dq20 bw_cX12_hedge_0 16 rfl rfl rfl
theorem dX12_hedge_19 : decode cX12_hedge 19 = .ok (.invokestatic 17, 3) := dq184 bw_cX12_hedge_0 19 rfl rfl rfl
theorem dX12_hedge_22 : decode cX12_hedge 22 = .ok (.ifCond .ne 8, 3) := dq154 bw_cX12_hedge_0 22 rfl rfl rfl
theorem bw_cX12_hedge_1 : dq_w cX12_hedge 24 [8, 42, 182, 0, 140, 172, 28, 170, 0, 0, 0, 106, 0, 0, 0, 0, 0, 0, 0, 7, 0, 0, 0, 45, 0, 0, 0] = true := by decide +kernel
theorem dX12_hedge_25 : decode cX12_hedge 25 = .ok (.aload_n 0, 1) := dq42 bw_cX12_hedge_1 1 rfl rfl
theorem dX12_hedge_26 : decode cX12_hedge 26 = .ok (.invokevirtual 140, 3) := dq182 bw_cX12_hedge_1 2 rfl rfl rfl
theorem dX12_hedge_29 : decode cX12_hedge 29 = .ok (.ireturn, 1) := dq172 bw_cX12_hedge_1 5 rfl rfl
theorem dX12_hedge_30 : decode cX12_hedge 30 = .ok (.iload_n 2, 1) := dq28 bw_cX12_hedge_1 6 rfl rfl
theorem dX12_hedge_31 : decode cX12_hedge 31 = .ok (.tableswitch 106 0 7 #[45, 52, 59, 66, 73, 80, 87, 94], 45) := by decide +kernel
theorem bw_cX12_hedge_3 : dq_w cX12_hedge 72 [0, 0, 0, 94, 42, 180, 0, 74, 27, 46, 172, 42, 180, 0, 80, 27, 46, 172, 42, 180, 0, 83, 27, 46, 172, 42, 180] = true := by decide +kernel
theorem dX12_hedge_76 : decode cX12_hedge 76 = .ok (.aload_n 0, 1) := dq42 bw_cX12_hedge_3 4 rfl rfl
theorem dX12_hedge_77 : decode cX12_hedge 77 = .ok (.getfield 74, 3) := dq180 bw_cX12_hedge_3 5 rfl rfl rfl
theorem dX12_hedge_80 : decode cX12_hedge 80 = .ok (.iload_n 1, 1) := dq27 bw_cX12_hedge_3 8 rfl rfl
theorem dX12_hedge_81 : decode cX12_hedge 81 = .ok (.iaload, 1) := dq46 bw_cX12_hedge_3 9 rfl rfl
theorem dX12_hedge_82 : decode cX12_hedge 82 = .ok (.ireturn, 1) := dq172 bw_cX12_hedge_3 10 rfl rfl
theorem dX12_hedge_83 : decode cX12_hedge 83 = .ok (.aload_n 0, 1) := dq42 bw_cX12_hedge_3 11 rfl rfl
theorem dX12_hedge_84 : decode cX12_hedge 84 = .ok (.getfield 80, 3) := dq180 bw_cX12_hedge_3 12 rfl rfl rfl
theorem dX12_hedge_87 : decode cX12_hedge 87 = .ok (.iload_n 1, 1) := dq27 bw_cX12_hedge_3 15 rfl rfl
theorem dX12_hedge_88 : decode cX12_hedge 88 = .ok (.iaload, 1) := dq46 bw_cX12_hedge_3 16 rfl rfl
theorem dX12_hedge_89 : decode cX12_hedge 89 = .ok (.ireturn, 1) := dq172 bw_cX12_hedge_3 17 rfl rfl
theorem dX12_hedge_90 : decode cX12_hedge 90 = .ok (.aload_n 0, 1) := dq42 bw_cX12_hedge_3 18 rfl rfl
theorem dX12_hedge_91 : decode cX12_hedge 91 = .ok (.getfield 83, 3) := dq180 bw_cX12_hedge_3 19 rfl rfl rfl
theorem dX12_hedge_94 : decode cX12_hedge 94 = .ok (.iload_n 1, 1) := dq27 bw_cX12_hedge_3 22 rfl rfl
theorem dX12_hedge_95 : decode cX12_hedge 95 = .ok (.iaload, 1) := dq46 bw_cX12_hedge_3 23 rfl rfl
theorem bw_cX12_hedge_4 : dq_w cX12_hedge 96 [172, 42, 180, 0, 89, 27, 46, 172, 42, 180, 0, 92, 27, 46, 172, 42, 180, 0, 95, 27, 46, 172, 42, 180, 0, 98, 27] = true := by decide +kernel
theorem dX12_hedge_96 : decode cX12_hedge 96 = .ok (.ireturn, 1) := dq172 bw_cX12_hedge_4 0 rfl rfl
theorem dX12_hedge_97 : decode cX12_hedge 97 = .ok (.aload_n 0, 1) := dq42 bw_cX12_hedge_4 1 rfl rfl
theorem dX12_hedge_98 : decode cX12_hedge 98 = .ok (.getfield 89, 3) := dq180 bw_cX12_hedge_4 2 rfl rfl rfl
theorem dX12_hedge_101 : decode cX12_hedge 101 = .ok (.iload_n 1, 1) := dq27 bw_cX12_hedge_4 5 rfl rfl
theorem dX12_hedge_102 : decode cX12_hedge 102 = .ok (.iaload, 1) := dq46 bw_cX12_hedge_4 6 rfl rfl
theorem dX12_hedge_103 : decode cX12_hedge 103 = .ok (.ireturn, 1) := dq172 bw_cX12_hedge_4 7 rfl rfl
theorem dX12_hedge_104 : decode cX12_hedge 104 = .ok (.aload_n 0, 1) := dq42 bw_cX12_hedge_4 8 rfl rfl
theorem dX12_hedge_105 : decode cX12_hedge 105 = .ok (.getfield 92, 3) := dq180 bw_cX12_hedge_4 9 rfl rfl rfl
theorem dX12_hedge_108 : decode cX12_hedge 108 = .ok (.iload_n 1, 1) := dq27 bw_cX12_hedge_4 12 rfl rfl
theorem dX12_hedge_109 : decode cX12_hedge 109 = .ok (.iaload, 1) := dq46 bw_cX12_hedge_4 13 rfl rfl
theorem dX12_hedge_110 : decode cX12_hedge 110 = .ok (.ireturn, 1) := dq172 bw_cX12_hedge_4 14 rfl rfl
theorem dX12_hedge_111 : decode cX12_hedge 111 = .ok (.aload_n 0, 1) := dq42 bw_cX12_hedge_4 15 rfl rfl
theorem dX12_hedge_112 : decode cX12_hedge 112 = .ok (.getfield 95, 3) := dq180 bw_cX12_hedge_4 16 rfl rfl rfl
theorem dX12_hedge_115 : decode cX12_hedge 115 = .ok (.iload_n 1, 1) := dq27 bw_cX12_hedge_4 19 rfl rfl
theorem dX12_hedge_116 : decode cX12_hedge 116 = .ok (.iaload, 1) := dq46 bw_cX12_hedge_4 20 rfl rfl
theorem dX12_hedge_117 : decode cX12_hedge 117 = .ok (.ireturn, 1) := dq172 bw_cX12_hedge_4 21 rfl rfl
theorem dX12_hedge_118 : decode cX12_hedge 118 = .ok (.aload_n 0, 1) := dq42 bw_cX12_hedge_4 22 rfl rfl
theorem dX12_hedge_119 : decode cX12_hedge 119 = .ok (.getfield 98, 3) := dq180 bw_cX12_hedge_4 23 rfl rfl rfl
theorem bw_cX12_hedge_5 : dq_w cX12_hedge 120 [0, 98, 27, 46, 172, 42, 180, 0, 123, 27, 184, 0, 144, 184, 0, 42, 172, 42, 27, 42, 180, 0, 148, 182, 0, 151, 184] = true := by decide +kernel
theorem dX12_hedge_122 : decode cX12_hedge 122 = .ok (.iload_n 1, 1) := dq27 bw_cX12_hedge_5 2 rfl rfl
theorem dX12_hedge_123 : decode cX12_hedge 123 = .ok (.iaload, 1) := dq46 bw_cX12_hedge_5 3 rfl rfl
theorem dX12_hedge_124 : decode cX12_hedge 124 = .ok (.ireturn, 1) := dq172 bw_cX12_hedge_5 4 rfl rfl
theorem dX12_hedge_125 : decode cX12_hedge 125 = .ok (.aload_n 0, 1) := dq42 bw_cX12_hedge_5 5 rfl rfl
theorem dX12_hedge_126 : decode cX12_hedge 126 = .ok (.getfield 123, 3) := dq180 bw_cX12_hedge_5 6 rfl rfl rfl
theorem dX12_hedge_129 : decode cX12_hedge 129 = .ok (.iload_n 1, 1) := dq27 bw_cX12_hedge_5 9 rfl rfl
theorem dX12_hedge_130 : decode cX12_hedge 130 = .ok (.invokestatic 144, 3) := dq184 bw_cX12_hedge_5 10 rfl rfl rfl
theorem dX12_hedge_133 : decode cX12_hedge 133 = .ok (.invokestatic 42, 3) := dq184 bw_cX12_hedge_5 13 rfl rfl rfl
theorem dX12_hedge_136 : decode cX12_hedge 136 = .ok (.ireturn, 1) := dq172 bw_cX12_hedge_5 16 rfl rfl
theorem dX12_hedge_137 : decode cX12_hedge 137 = .ok (.aload_n 0, 1) := dq42 bw_cX12_hedge_5 17 rfl rfl
theorem dX12_hedge_138 : decode cX12_hedge 138 = .ok (.iload_n 1, 1) := dq27 bw_cX12_hedge_5 18 rfl rfl
theorem dX12_hedge_139 : decode cX12_hedge 139 = .ok (.aload_n 0, 1) := dq42 bw_cX12_hedge_5 19 rfl rfl
theorem dX12_hedge_140 : decode cX12_hedge 140 = .ok (.getfield 148, 3) := dq180 bw_cX12_hedge_5 20 rfl rfl rfl
theorem dX12_hedge_143 : decode cX12_hedge 143 = .ok (.invokevirtual 151, 3) := dq182 bw_cX12_hedge_5 23 rfl rfl rfl
theorem bw_cX12_hedge_6 : dq_w cX12_hedge 144 [0, 151, 184, 0, 42, 172] = true := by decide +kernel
theorem dX12_hedge_146 : decode cX12_hedge 146 = .ok (.invokestatic 42, 3) := dq184 bw_cX12_hedge_6 2 rfl rfl rfl
theorem dX12_hedge_149 : decode cX12_hedge 149 = .ok (.ireturn, 1) := dq172 bw_cX12_hedge_6 5 rfl rfl
theorem bw_cX12_isCorner_0 : dq_w cX12_isCorner 0 [27, 133, 9, 42, 180, 0, 14, 4, 100, 133, 184, 0, 17, 172] = true := by decide +kernel
theorem dX12_isCorner_0 : decode cX12_isCorner 0 = .ok (.iload_n 1, 1) := dq27 bw_cX12_isCorner_0 0 rfl rfl
theorem dX12_isCorner_1 : decode cX12_isCorner 1 = .ok (.i2l, 1) := dq133 bw_cX12_isCorner_0 1 rfl rfl
theorem dX12_isCorner_2 : decode cX12_isCorner 2 = .ok (.lconst 0, 1) := dq9 bw_cX12_isCorner_0 2 rfl rfl
theorem dX12_isCorner_3 : decode cX12_isCorner 3 = .ok (.aload_n 0, 1) := dq42 bw_cX12_isCorner_0 3 rfl rfl
theorem dX12_isCorner_4 : decode cX12_isCorner 4 = .ok (.getfield 14, 3) := dq180 bw_cX12_isCorner_0 4 rfl rfl rfl
theorem dX12_isCorner_7 : decode cX12_isCorner 7 = .ok (.iconst 1, 1) := dq4 bw_cX12_isCorner_0 7 rfl rfl
theorem dX12_isCorner_8 : decode cX12_isCorner 8 = .ok (.isub, 1) := dq100 bw_cX12_isCorner_0 8 rfl rfl
theorem dX12_isCorner_9 : decode cX12_isCorner 9 = .ok (.i2l, 1) := dq133 bw_cX12_isCorner_0 9 rfl rfl
theorem dX12_isCorner_10 : decode cX12_isCorner 10 = .ok (.invokestatic 17, 3) := dq184 bw_cX12_isCorner_0 10 rfl rfl rfl
theorem dX12_isCorner_13 : decode cX12_isCorner 13 = .ok (.ireturn, 1) := dq172 bw_cX12_isCorner_0 13 rfl rfl
theorem bw_cX12_grassOf_0 : dq_w cX12_grassOf 0 [5, 42, 180, 0, 65, 27, 46, 42, 180, 0, 65, 28, 46, 100, 184, 0, 154, 42, 180, 0, 68, 27, 46, 42, 180, 0, 68] = true := by decide +kernel
theorem dX12_grassOf_0 : decode cX12_grassOf 0 = .ok (.iconst 2, 1) := dq5 bw_cX12_grassOf_0 0 rfl rfl
theorem dX12_grassOf_1 : decode cX12_grassOf 1 = .ok (.aload_n 0, 1) := dq42 bw_cX12_grassOf_0 1 rfl rfl
theorem dX12_grassOf_2 : decode cX12_grassOf 2 = .ok (.getfield 65, 3) := dq180 bw_cX12_grassOf_0 2 rfl rfl rfl
theorem dX12_grassOf_5 : decode cX12_grassOf 5 = .ok (.iload_n 1, 1) := dq27 bw_cX12_grassOf_0 5 rfl rfl
theorem dX12_grassOf_6 : decode cX12_grassOf 6 = .ok (.iaload, 1) := dq46 bw_cX12_grassOf_0 6 rfl rfl
theorem dX12_grassOf_7 : decode cX12_grassOf 7 = .ok (.aload_n 0, 1) := dq42 bw_cX12_grassOf_0 7 rfl rfl
theorem dX12_grassOf_8 : decode cX12_grassOf 8 = .ok (.getfield 65, 3) := dq180 bw_cX12_grassOf_0 8 rfl rfl rfl
theorem dX12_grassOf_11 : decode cX12_grassOf 11 = .ok (.iload_n 2, 1) := dq28 bw_cX12_grassOf_0 11 rfl rfl
theorem dX12_grassOf_12 : decode cX12_grassOf 12 = .ok (.iaload, 1) := dq46 bw_cX12_grassOf_0 12 rfl rfl
theorem dX12_grassOf_13 : decode cX12_grassOf 13 = .ok (.isub, 1) := dq100 bw_cX12_grassOf_0 13 rfl rfl
theorem dX12_grassOf_14 : decode cX12_grassOf 14 = .ok (.invokestatic 154, 3) := dq184 bw_cX12_grassOf_0 14 rfl rfl rfl
theorem dX12_grassOf_17 : decode cX12_grassOf 17 = .ok (.aload_n 0, 1) := dq42 bw_cX12_grassOf_0 17 rfl rfl
theorem dX12_grassOf_18 : decode cX12_grassOf 18 = .ok (.getfield 68, 3) := dq180 bw_cX12_grassOf_0 18 rfl rfl rfl
theorem dX12_grassOf_21 : decode cX12_grassOf 21 = .ok (.iload_n 1, 1) := dq27 bw_cX12_grassOf_0 21 rfl rfl
theorem dX12_grassOf_22 : decode cX12_grassOf 22 = .ok (.iaload, 1) := dq46 bw_cX12_grassOf_0 22 rfl rfl
theorem dX12_grassOf_23 : decode cX12_grassOf 23 = .ok (.aload_n 0, 1) := dq42 bw_cX12_grassOf_0 23 rfl rfl
theorem bw_cX12_grassOf_1 : dq_w cX12_grassOf 24 [180, 0, 68, 28, 46, 100, 184, 0, 154, 96, 104, 172] = true := by decide +kernel
theorem dX12_grassOf_24 : decode cX12_grassOf 24 = .ok (.getfield 68, 3) := dq180 bw_cX12_grassOf_1 0 rfl rfl rfl
theorem dX12_grassOf_27 : decode cX12_grassOf 27 = .ok (.iload_n 2, 1) := dq28 bw_cX12_grassOf_1 3 rfl rfl
theorem dX12_grassOf_28 : decode cX12_grassOf 28 = .ok (.iaload, 1) := dq46 bw_cX12_grassOf_1 4 rfl rfl
theorem dX12_grassOf_29 : decode cX12_grassOf 29 = .ok (.isub, 1) := dq100 bw_cX12_grassOf_1 5 rfl rfl
theorem dX12_grassOf_30 : decode cX12_grassOf 30 = .ok (.invokestatic 154, 3) := dq184 bw_cX12_grassOf_1 6 rfl rfl rfl
theorem dX12_grassOf_33 : decode cX12_grassOf 33 = .ok (.iadd, 1) := dq96 bw_cX12_grassOf_1 9 rfl rfl
theorem dX12_grassOf_34 : decode cX12_grassOf 34 = .ok (.imul, 1) := dq104 bw_cX12_grassOf_1 10 rfl rfl
theorem dX12_grassOf_35 : decode cX12_grassOf 35 = .ok (.ireturn, 1) := dq172 bw_cX12_grassOf_1 11 rfl rfl
theorem bw_cX12_grass_0 : dq_w cX12_grass 0 [42, 3, 181, 0, 3, 42, 27, 182, 0, 157, 153, 0, 20, 42, 28, 182, 0, 157, 153, 0, 12, 42, 27, 28, 182, 0, 160] = true := by decide +kernel
theorem dX12_grass_0 : decode cX12_grass 0 = .ok (.aload_n 0, 1) := dq42 bw_cX12_grass_0 0 rfl rfl
theorem dX12_grass_1 : decode cX12_grass 1 = .ok (.iconst 0, 1) := dq3 bw_cX12_grass_0 1 rfl rfl
theorem dX12_grass_2 : decode cX12_grass 2 = .ok (.putfield 3, 3) := dq181 bw_cX12_grass_0 2 rfl rfl rfl
theorem dX12_grass_5 : decode cX12_grass 5 = .ok (.aload_n 0, 1) := dq42 bw_cX12_grass_0 5 rfl rfl
theorem dX12_grass_6 : decode cX12_grass 6 = .ok (.iload_n 1, 1) := dq27 bw_cX12_grass_0 6 rfl rfl
theorem dX12_grass_7 : decode cX12_grass 7 = .ok (.invokevirtual 157, 3) := dq182 bw_cX12_grass_0 7 rfl rfl rfl
theorem dX12_grass_10 : decode cX12_grass 10 = .ok (.ifCond .eq 20, 3) := dq153 bw_cX12_grass_0 10 rfl rfl rfl
theorem dX12_grass_13 : decode cX12_grass 13 = .ok (.aload_n 0, 1) := dq42 bw_cX12_grass_0 13 rfl rfl
theorem dX12_grass_14 : decode cX12_grass 14 = .ok (.iload_n 2, 1) := dq28 bw_cX12_grass_0 14 rfl rfl
theorem dX12_grass_15 : decode cX12_grass 15 = .ok (.invokevirtual 157, 3) := dq182 bw_cX12_grass_0 15 rfl rfl rfl
theorem dX12_grass_18 : decode cX12_grass 18 = .ok (.ifCond .eq 12, 3) := dq153 bw_cX12_grass_0 18 rfl rfl rfl
theorem dX12_grass_21 : decode cX12_grass 21 = .ok (.aload_n 0, 1) := dq42 bw_cX12_grass_0 21 rfl rfl
theorem dX12_grass_22 : decode cX12_grass 22 = .ok (.iload_n 1, 1) := dq27 bw_cX12_grass_0 22 rfl rfl
theorem dX12_grass_23 : decode cX12_grass 23 = .ok (.iload_n 2, 1) := dq28 bw_cX12_grass_0 23 rfl rfl
theorem bw_cX12_grass_1 : dq_w cX12_grass 24 [182, 0, 160, 167, 0, 4, 2, 172] = true := by decide +kernel
theorem dX12_grass_24 : decode cX12_grass 24 = .ok (.invokevirtual 160, 3) := dq182 bw_cX12_grass_1 0 rfl rfl rfl
theorem dX12_grass_27 : decode cX12_grass 27 = .ok (.goto 4, 3) := dq167 bw_cX12_grass_1 3 rfl rfl rfl
theorem dX12_grass_30 : decode cX12_grass 30 = .ok (.iconst (-1), 1) := dq2 bw_cX12_grass_1 6 rfl rfl
theorem dX12_grass_31 : decode cX12_grass 31 = .ok (.ireturn, 1) := dq172 bw_cX12_grass_1 7 rfl rfl
theorem bw_cX12_set_0 : dq_w cX12_set 0 [42, 3, 181, 0, 3, 27, 133, 9, 10, 184, 0, 17, 153, 0, 54, 42, 28, 182, 0, 135, 153, 0, 46, 29, 133, 9, 20] = true := by decide +kernel
theorem dX12_set_0 : decode cX12_set 0 = .ok (.aload_n 0, 1) := dq42 bw_cX12_set_0 0 rfl rfl
theorem dX12_set_1 : decode cX12_set 1 = .ok (.iconst 0, 1) := dq3 bw_cX12_set_0 1 rfl rfl
theorem dX12_set_2 : decode cX12_set 2 = .ok (.putfield 3, 3) := dq181 bw_cX12_set_0 2 rfl rfl rfl
theorem dX12_set_5 : decode cX12_set 5 = .ok (.iload_n 1, 1) := dq27 bw_cX12_set_0 5 rfl rfl
theorem dX12_set_6 : decode cX12_set 6 = .ok (.i2l, 1) := dq133 bw_cX12_set_0 6 rfl rfl
theorem dX12_set_7 : decode cX12_set 7 = .ok (.lconst 0, 1) := dq9 bw_cX12_set_0 7 rfl rfl
theorem dX12_set_8 : decode cX12_set 8 = .ok (.lconst 1, 1) := dq10 bw_cX12_set_0 8 rfl rfl
theorem dX12_set_9 : decode cX12_set 9 = .ok (.invokestatic 17, 3) := dq184 bw_cX12_set_0 9 rfl rfl rfl
theorem dX12_set_12 : decode cX12_set 12 = .ok (.ifCond .eq 54, 3) := dq153 bw_cX12_set_0 12 rfl rfl rfl
theorem dX12_set_15 : decode cX12_set 15 = .ok (.aload_n 0, 1) := dq42 bw_cX12_set_0 15 rfl rfl
theorem dX12_set_16 : decode cX12_set 16 = .ok (.iload_n 2, 1) := dq28 bw_cX12_set_0 16 rfl rfl
theorem dX12_set_17 : decode cX12_set 17 = .ok (.invokevirtual 135, 3) := dq182 bw_cX12_set_0 17 rfl rfl rfl
theorem dX12_set_20 : decode cX12_set 20 = .ok (.ifCond .eq 46, 3) := dq153 bw_cX12_set_0 20 rfl rfl rfl
theorem dX12_set_23 : decode cX12_set 23 = .ok (.iload_n 3, 1) := dq29 bw_cX12_set_0 23 rfl rfl
theorem bw_cX12_set_1 : dq_w cX12_set 24 [133, 9, 20, 0, 163, 184, 0, 17, 153, 0, 34, 27, 154, 0, 10, 42, 180, 0, 95, 167, 0, 7, 42, 180, 0, 98, 58] = true := by decide +kernel
theorem dX12_set_24 : decode cX12_set 24 = .ok (.i2l, 1) := dq133 bw_cX12_set_1 0 rfl rfl
theorem dX12_set_25 : decode cX12_set 25 = .ok (.lconst 0, 1) := dq9 bw_cX12_set_1 1 rfl rfl
theorem dX12_set_26 : decode cX12_set 26 = .ok (.ldc2_w 163, 3) := dq20 bw_cX12_set_1 2 rfl rfl rfl
theorem dX12_set_29 : decode cX12_set 29 = .ok (.invokestatic 17, 3) := dq184 bw_cX12_set_1 5 rfl rfl rfl
theorem dX12_set_32 : decode cX12_set 32 = .ok (.ifCond .eq 34, 3) := dq153 bw_cX12_set_1 8 rfl rfl rfl
theorem dX12_set_35 : decode cX12_set 35 = .ok (.iload_n 1, 1) := dq27 bw_cX12_set_1 11 rfl rfl
theorem dX12_set_36 : decode cX12_set 36 = .ok (.ifCond .ne 10, 3) := dq154 bw_cX12_set_1 12 rfl rfl rfl
theorem dX12_set_39 : decode cX12_set 39 = .ok (.aload_n 0, 1) := dq42 bw_cX12_set_1 15 rfl rfl
theorem dX12_set_40 : decode cX12_set 40 = .ok (.getfield 95, 3) := dq180 bw_cX12_set_1 16 rfl rfl rfl
theorem dX12_set_43 : decode cX12_set 43 = .ok (.goto 7, 3) := dq167 bw_cX12_set_1 19 rfl rfl rfl
theorem dX12_set_46 : decode cX12_set 46 = .ok (.aload_n 0, 1) := dq42 bw_cX12_set_1 22 rfl rfl
theorem dX12_set_47 : decode cX12_set 47 = .ok (.getfield 98, 3) := dq180 bw_cX12_set_1 23 rfl rfl rfl
theorem bw_cX12_set_2 : dq_w cX12_set 48 [0, 98, 58, 4, 25, 4, 28, 46, 54, 5, 25, 4, 28, 29, 79, 21, 5, 172, 27, 5, 160, 0, 29, 29, 133, 9, 20] = true := by decide +kernel
theorem dX12_set_50 : decode cX12_set 50 = .ok (.astore 4, 2) := dq58 bw_cX12_set_2 2 rfl rfl
theorem dX12_set_52 : decode cX12_set 52 = .ok (.aload 4, 2) := dq25 bw_cX12_set_2 4 rfl rfl
theorem dX12_set_54 : decode cX12_set 54 = .ok (.iload_n 2, 1) := dq28 bw_cX12_set_2 6 rfl rfl
theorem dX12_set_55 : decode cX12_set 55 = .ok (.iaload, 1) := dq46 bw_cX12_set_2 7 rfl rfl
theorem dX12_set_56 : decode cX12_set 56 = .ok (.istore 5, 2) := dq54 bw_cX12_set_2 8 rfl rfl
theorem dX12_set_58 : decode cX12_set 58 = .ok (.aload 4, 2) := dq25 bw_cX12_set_2 10 rfl rfl
theorem dX12_set_60 : decode cX12_set 60 = .ok (.iload_n 2, 1) := dq28 bw_cX12_set_2 12 rfl rfl
theorem dX12_set_61 : decode cX12_set 61 = .ok (.iload_n 3, 1) := dq29 bw_cX12_set_2 13 rfl rfl
theorem dX12_set_62 : decode cX12_set 62 = .ok (.iastore, 1) := dq79 bw_cX12_set_2 14 rfl rfl
theorem dX12_set_63 : decode cX12_set 63 = .ok (.iload 5, 2) := dq21 bw_cX12_set_2 15 rfl rfl
theorem dX12_set_65 : decode cX12_set 65 = .ok (.ireturn, 1) := dq172 bw_cX12_set_2 17 rfl rfl
theorem dX12_set_66 : decode cX12_set 66 = .ok (.iload_n 1, 1) := dq27 bw_cX12_set_2 18 rfl rfl
theorem dX12_set_67 : decode cX12_set 67 = .ok (.iconst 2, 1) := dq5 bw_cX12_set_2 19 rfl rfl
theorem dX12_set_68 : decode cX12_set 68 = .ok (.if_icmp .ne 29, 3) := dq160 bw_cX12_set_2 20 rfl rfl rfl
theorem dX12_set_71 : decode cX12_set 71 = .ok (.iload_n 3, 1) := dq29 bw_cX12_set_2 23 rfl rfl
theorem bw_cX12_set_3 : dq_w cX12_set 72 [133, 9, 20, 0, 165, 184, 0, 17, 153, 0, 17, 42, 180, 0, 132, 54, 4, 42, 29, 181, 0, 132, 21, 4, 172, 27, 6] = true := by decide +kernel
theorem dX12_set_72 : decode cX12_set 72 = .ok (.i2l, 1) := dq133 bw_cX12_set_3 0 rfl rfl
theorem dX12_set_73 : decode cX12_set 73 = .ok (.lconst 0, 1) := dq9 bw_cX12_set_3 1 rfl rfl
theorem dX12_set_74 : decode cX12_set 74 = .ok (.ldc2_w 165, 3) := dq20 bw_cX12_set_3 2 rfl rfl rfl
theorem dX12_set_77 : decode cX12_set 77 = .ok (.invokestatic 17, 3) := dq184 bw_cX12_set_3 5 rfl rfl rfl
theorem dX12_set_80 : decode cX12_set 80 = .ok (.ifCond .eq 17, 3) := dq153 bw_cX12_set_3 8 rfl rfl rfl
theorem dX12_set_83 : decode cX12_set 83 = .ok (.aload_n 0, 1) := dq42 bw_cX12_set_3 11 rfl rfl
theorem dX12_set_84 : decode cX12_set 84 = .ok (.getfield 132, 3) := dq180 bw_cX12_set_3 12 rfl rfl rfl
theorem dX12_set_87 : decode cX12_set 87 = .ok (.istore 4, 2) := dq54 bw_cX12_set_3 15 rfl rfl
theorem dX12_set_89 : decode cX12_set 89 = .ok (.aload_n 0, 1) := dq42 bw_cX12_set_3 17 rfl rfl
theorem dX12_set_90 : decode cX12_set 90 = .ok (.iload_n 3, 1) := dq29 bw_cX12_set_3 18 rfl rfl
theorem dX12_set_91 : decode cX12_set 91 = .ok (.putfield 132, 3) := dq181 bw_cX12_set_3 19 rfl rfl rfl
theorem dX12_set_94 : decode cX12_set 94 = .ok (.iload 4, 2) := dq21 bw_cX12_set_3 22 rfl rfl
theorem bw_cX12_set_4 : dq_w cX12_set 96 [172, 27, 6, 160, 0, 29, 29, 133, 9, 20, 0, 167, 184, 0, 17, 153, 0, 17, 42, 180, 0, 169, 54, 4, 42, 29, 181] = true := by decide +kernel
theorem dX12_set_96 : decode cX12_set 96 = .ok (.ireturn, 1) := dq172 bw_cX12_set_4 0 rfl rfl
theorem dX12_set_97 : decode cX12_set 97 = .ok (.iload_n 1, 1) := dq27 bw_cX12_set_4 1 rfl rfl
theorem dX12_set_98 : decode cX12_set 98 = .ok (.iconst 3, 1) := dq6 bw_cX12_set_4 2 rfl rfl
theorem dX12_set_99 : decode cX12_set 99 = .ok (.if_icmp .ne 29, 3) := dq160 bw_cX12_set_4 3 rfl rfl rfl
theorem dX12_set_102 : decode cX12_set 102 = .ok (.iload_n 3, 1) := dq29 bw_cX12_set_4 6 rfl rfl
theorem dX12_set_103 : decode cX12_set 103 = .ok (.i2l, 1) := dq133 bw_cX12_set_4 7 rfl rfl
theorem dX12_set_104 : decode cX12_set 104 = .ok (.lconst 0, 1) := dq9 bw_cX12_set_4 8 rfl rfl
theorem dX12_set_105 : decode cX12_set 105 = .ok (.ldc2_w 167, 3) := dq20 bw_cX12_set_4 9 rfl rfl rfl
theorem dX12_set_108 : decode cX12_set 108 = .ok (.invokestatic 17, 3) := dq184 bw_cX12_set_4 12 rfl rfl rfl
theorem dX12_set_111 : decode cX12_set 111 = .ok (.ifCond .eq 17, 3) := dq153 bw_cX12_set_4 15 rfl rfl rfl
theorem dX12_set_114 : decode cX12_set 114 = .ok (.aload_n 0, 1) := dq42 bw_cX12_set_4 18 rfl rfl
theorem dX12_set_115 : decode cX12_set 115 = .ok (.getfield 169, 3) := dq180 bw_cX12_set_4 19 rfl rfl rfl
theorem dX12_set_118 : decode cX12_set 118 = .ok (.istore 4, 2) := dq54 bw_cX12_set_4 22 rfl rfl
theorem bw_cX12_set_5 : dq_w cX12_set 120 [42, 29, 181, 0, 169, 21, 4, 172, 2, 172] = true := by decide +kernel
theorem dX12_set_120 : decode cX12_set 120 = .ok (.aload_n 0, 1) := dq42 bw_cX12_set_5 0 rfl rfl
theorem dX12_set_121 : decode cX12_set 121 = .ok (.iload_n 3, 1) := dq29 bw_cX12_set_5 1 rfl rfl
theorem dX12_set_122 : decode cX12_set 122 = .ok (.putfield 169, 3) := dq181 bw_cX12_set_5 2 rfl rfl rfl
theorem dX12_set_125 : decode cX12_set 125 = .ok (.iload 4, 2) := dq21 bw_cX12_set_5 5 rfl rfl
theorem dX12_set_127 : decode cX12_set 127 = .ok (.ireturn, 1) := dq172 bw_cX12_set_5 7 rfl rfl
theorem dX12_set_128 : decode cX12_set 128 = .ok (.iconst (-1), 1) := dq2 bw_cX12_set_5 8 rfl rfl
theorem dX12_set_129 : decode cX12_set 129 = .ok (.ireturn, 1) := dq172 bw_cX12_set_5 9 rfl rfl
theorem bw_cX12_sheet_0 : dq_w cX12_sheet 0 [42, 3, 181, 0, 3, 27, 133, 9, 20, 0, 172, 184, 0, 17, 153, 0, 9, 28, 16, 14, 164, 0, 5, 2, 172, 27, 6] = true := by decide +kernel
theorem dX12_sheet_0 : decode cX12_sheet 0 = .ok (.aload_n 0, 1) := dq42 bw_cX12_sheet_0 0 rfl rfl
theorem dX12_sheet_1 : decode cX12_sheet 1 = .ok (.iconst 0, 1) := dq3 bw_cX12_sheet_0 1 rfl rfl
theorem dX12_sheet_2 : decode cX12_sheet 2 = .ok (.putfield 3, 3) := dq181 bw_cX12_sheet_0 2 rfl rfl rfl
theorem dX12_sheet_5 : decode cX12_sheet 5 = .ok (.iload_n 1, 1) := dq27 bw_cX12_sheet_0 5 rfl rfl
theorem dX12_sheet_6 : decode cX12_sheet 6 = .ok (.i2l, 1) := dq133 bw_cX12_sheet_0 6 rfl rfl
theorem dX12_sheet_7 : decode cX12_sheet 7 = .ok (.lconst 0, 1) := dq9 bw_cX12_sheet_0 7 rfl rfl
theorem dX12_sheet_8 : decode cX12_sheet 8 = .ok (.ldc2_w 172, 3) := dq20 bw_cX12_sheet_0 8 rfl rfl rfl
theorem dX12_sheet_11 : decode cX12_sheet 11 = .ok (.invokestatic 17, 3) := dq184 bw_cX12_sheet_0 11 rfl rfl rfl
theorem dX12_sheet_14 : decode cX12_sheet 14 = .ok (.ifCond .eq 9, 3) := dq153 bw_cX12_sheet_0 14 rfl rfl rfl
theorem dX12_sheet_17 : decode cX12_sheet 17 = .ok (.iload_n 2, 1) := dq28 bw_cX12_sheet_0 17 rfl rfl
theorem dX12_sheet_18 : decode cX12_sheet 18 = .ok (.bipush 14, 2) := dq16 bw_cX12_sheet_0 18 rfl rfl rfl
theorem dX12_sheet_20 : decode cX12_sheet 20 = .ok (.if_icmp .le 5, 3) := dq164 bw_cX12_sheet_0 20 rfl rfl rfl
theorem dX12_sheet_23 : decode cX12_sheet 23 = .ok (.iconst (-1), 1) := dq2 bw_cX12_sheet_0 23 rfl rfl
theorem bw_cX12_sheet_1 : dq_w cX12_sheet 24 [172, 27, 6, 159, 0, 10, 28, 156, 0, 6, 16, 254, 172, 3, 54, 5, 29, 54, 6, 3, 54, 7, 21, 7, 42, 180, 0] = true := by decide +kernel
theorem dX12_sheet_24 : decode cX12_sheet 24 = .ok (.ireturn, 1) := dq172 bw_cX12_sheet_1 0 rfl rfl
theorem dX12_sheet_25 : decode cX12_sheet 25 = .ok (.iload_n 1, 1) := dq27 bw_cX12_sheet_1 1 rfl rfl
theorem dX12_sheet_26 : decode cX12_sheet 26 = .ok (.iconst 3, 1) := dq6 bw_cX12_sheet_1 2 rfl rfl
theorem dX12_sheet_27 : decode cX12_sheet 27 = .ok (.if_icmp .eq 10, 3) := dq159 bw_cX12_sheet_1 3 rfl rfl rfl
theorem dX12_sheet_30 : decode cX12_sheet 30 = .ok (.iload_n 2, 1) := dq28 bw_cX12_sheet_1 6 rfl rfl
theorem dX12_sheet_31 : decode cX12_sheet 31 = .ok (.ifCond .ge 6, 3) := dq156 bw_cX12_sheet_1 7 rfl rfl rfl
theorem dX12_sheet_34 : decode cX12_sheet 34 = .ok (.bipush (-2), 2) := dq16 bw_cX12_sheet_1 10 rfl rfl rfl
theorem dX12_sheet_36 : decode cX12_sheet 36 = .ok (.ireturn, 1) := dq172 bw_cX12_sheet_1 12 rfl rfl
theorem dX12_sheet_37 : decode cX12_sheet 37 = .ok (.iconst 0, 1) := dq3 bw_cX12_sheet_1 13 rfl rfl
theorem dX12_sheet_38 : decode cX12_sheet 38 = .ok (.istore 5, 2) := dq54 bw_cX12_sheet_1 14 rfl rfl
theorem dX12_sheet_40 : decode cX12_sheet 40 = .ok (.iload_n 3, 1) := dq29 bw_cX12_sheet_1 16 rfl rfl
theorem dX12_sheet_41 : decode cX12_sheet 41 = .ok (.istore 6, 2) := dq54 bw_cX12_sheet_1 17 rfl rfl
theorem dX12_sheet_43 : decode cX12_sheet 43 = .ok (.iconst 0, 1) := dq3 bw_cX12_sheet_1 19 rfl rfl
theorem dX12_sheet_44 : decode cX12_sheet 44 = .ok (.istore 7, 2) := dq54 bw_cX12_sheet_1 20 rfl rfl
theorem dX12_sheet_46 : decode cX12_sheet 46 = .ok (.iload 7, 2) := dq21 bw_cX12_sheet_1 22 rfl rfl
theorem bw_cX12_sheet_2 : dq_w cX12_sheet 48 [42, 180, 0, 21, 162, 0, 86, 27, 154, 0, 9, 21, 6, 145, 167, 0, 16, 27, 4, 160, 0, 9, 21, 6, 147, 167, 0] = true := by decide +kernel
theorem dX12_sheet_48 : decode cX12_sheet 48 = .ok (.aload_n 0, 1) := dq42 bw_cX12_sheet_2 0 rfl rfl
theorem dX12_sheet_49 : decode cX12_sheet 49 = .ok (.getfield 21, 3) := dq180 bw_cX12_sheet_2 1 rfl rfl rfl
theorem dX12_sheet_52 : decode cX12_sheet 52 = .ok (.if_icmp .ge 86, 3) := dq162 bw_cX12_sheet_2 4 rfl rfl rfl
theorem dX12_sheet_55 : decode cX12_sheet 55 = .ok (.iload_n 1, 1) := dq27 bw_cX12_sheet_2 7 rfl rfl
theorem dX12_sheet_56 : decode cX12_sheet 56 = .ok (.ifCond .ne 9, 3) := dq154 bw_cX12_sheet_2 8 rfl rfl rfl
theorem dX12_sheet_59 : decode cX12_sheet 59 = .ok (.iload 6, 2) := dq21 bw_cX12_sheet_2 11 rfl rfl
theorem dX12_sheet_61 : decode cX12_sheet 61 = .ok (.i2b, 1) := dq145 bw_cX12_sheet_2 13 rfl rfl
theorem dX12_sheet_62 : decode cX12_sheet 62 = .ok (.goto 16, 3) := dq167 bw_cX12_sheet_2 14 rfl rfl rfl
theorem dX12_sheet_65 : decode cX12_sheet 65 = .ok (.iload_n 1, 1) := dq27 bw_cX12_sheet_2 17 rfl rfl
theorem dX12_sheet_66 : decode cX12_sheet 66 = .ok (.iconst 1, 1) := dq4 bw_cX12_sheet_2 18 rfl rfl
theorem dX12_sheet_67 : decode cX12_sheet 67 = .ok (.if_icmp .ne 9, 3) := dq160 bw_cX12_sheet_2 19 rfl rfl rfl
theorem dX12_sheet_70 : decode cX12_sheet 70 = .ok (.iload 6, 2) := dq21 bw_cX12_sheet_2 22 rfl rfl
theorem bw_cX12_sheet_3 : dq_w cX12_sheet 72 [147, 167, 0, 5, 21, 6, 54, 8, 42, 180, 0, 83, 21, 7, 27, 6, 159, 0, 9, 21, 7, 28, 161, 0, 7, 4, 167] = true := by decide +kernel
theorem dX12_sheet_72 : decode cX12_sheet 72 = .ok (.i2s, 1) := dq147 bw_cX12_sheet_3 0 rfl rfl
theorem dX12_sheet_73 : decode cX12_sheet 73 = .ok (.goto 5, 3) := dq167 bw_cX12_sheet_3 1 rfl rfl rfl
theorem dX12_sheet_76 : decode cX12_sheet 76 = .ok (.iload 6, 2) := dq21 bw_cX12_sheet_3 4 rfl rfl
theorem dX12_sheet_78 : decode cX12_sheet 78 = .ok (.istore 8, 2) := dq54 bw_cX12_sheet_3 6 rfl rfl
theorem dX12_sheet_80 : decode cX12_sheet 80 = .ok (.aload_n 0, 1) := dq42 bw_cX12_sheet_3 8 rfl rfl
theorem dX12_sheet_81 : decode cX12_sheet 81 = .ok (.getfield 83, 3) := dq180 bw_cX12_sheet_3 9 rfl rfl rfl
theorem dX12_sheet_84 : decode cX12_sheet 84 = .ok (.iload 7, 2) := dq21 bw_cX12_sheet_3 12 rfl rfl
theorem dX12_sheet_86 : decode cX12_sheet 86 = .ok (.iload_n 1, 1) := dq27 bw_cX12_sheet_3 14 rfl rfl
theorem dX12_sheet_87 : decode cX12_sheet 87 = .ok (.iconst 3, 1) := dq6 bw_cX12_sheet_3 15 rfl rfl
theorem dX12_sheet_88 : decode cX12_sheet 88 = .ok (.if_icmp .eq 9, 3) := dq159 bw_cX12_sheet_3 16 rfl rfl rfl
theorem dX12_sheet_91 : decode cX12_sheet 91 = .ok (.iload 7, 2) := dq21 bw_cX12_sheet_3 19 rfl rfl
theorem dX12_sheet_93 : decode cX12_sheet 93 = .ok (.iload_n 2, 1) := dq28 bw_cX12_sheet_3 21 rfl rfl
theorem dX12_sheet_94 : decode cX12_sheet 94 = .ok (.if_icmp .lt 7, 3) := dq161 bw_cX12_sheet_3 22 rfl rfl rfl
theorem bw_cX12_sheet_4 : dq_w cX12_sheet 96 [7, 4, 167, 0, 14, 4, 16, 20, 21, 8, 184, 0, 33, 184, 0, 174, 79, 21, 5, 42, 180, 0, 83, 21, 7, 46, 96] = true := by decide +kernel
theorem dX12_sheet_97 : decode cX12_sheet 97 = .ok (.iconst 1, 1) := dq4 bw_cX12_sheet_4 1 rfl rfl
theorem dX12_sheet_98 : decode cX12_sheet 98 = .ok (.goto 14, 3) := dq167 bw_cX12_sheet_4 2 rfl rfl rfl
theorem dX12_sheet_101 : decode cX12_sheet 101 = .ok (.iconst 1, 1) := dq4 bw_cX12_sheet_4 5 rfl rfl
theorem dX12_sheet_102 : decode cX12_sheet 102 = .ok (.bipush 20, 2) := dq16 bw_cX12_sheet_4 6 rfl rfl rfl
theorem dX12_sheet_104 : decode cX12_sheet 104 = .ok (.iload 8, 2) := dq21 bw_cX12_sheet_4 8 rfl rfl
theorem dX12_sheet_106 : decode cX12_sheet 106 = .ok (.invokestatic 33, 3) := dq184 bw_cX12_sheet_4 10 rfl rfl rfl
theorem dX12_sheet_109 : decode cX12_sheet 109 = .ok (.invokestatic 174, 3) := dq184 bw_cX12_sheet_4 13 rfl rfl rfl
theorem dX12_sheet_112 : decode cX12_sheet 112 = .ok (.iastore, 1) := dq79 bw_cX12_sheet_4 16 rfl rfl
theorem dX12_sheet_113 : decode cX12_sheet 113 = .ok (.iload 5, 2) := dq21 bw_cX12_sheet_4 17 rfl rfl
theorem dX12_sheet_115 : decode cX12_sheet 115 = .ok (.aload_n 0, 1) := dq42 bw_cX12_sheet_4 19 rfl rfl
theorem dX12_sheet_116 : decode cX12_sheet 116 = .ok (.getfield 83, 3) := dq180 bw_cX12_sheet_4 20 rfl rfl rfl
theorem dX12_sheet_119 : decode cX12_sheet 119 = .ok (.iload 7, 2) := dq21 bw_cX12_sheet_4 23 rfl rfl
theorem bw_cX12_sheet_5 : dq_w cX12_sheet 120 [7, 46, 96, 54, 5, 21, 6, 21, 4, 96, 54, 6, 132, 7, 1, 167, 255, 167, 27, 6, 160, 0, 8, 16, 253, 167, 0] = true := by decide +kernel
theorem dX12_sheet_121 : decode cX12_sheet 121 = .ok (.iaload, 1) := dq46 bw_cX12_sheet_5 1 rfl rfl
theorem dX12_sheet_122 : decode cX12_sheet 122 = .ok (.iadd, 1) := dq96 bw_cX12_sheet_5 2 rfl rfl
theorem dX12_sheet_123 : decode cX12_sheet 123 = .ok (.istore 5, 2) := dq54 bw_cX12_sheet_5 3 rfl rfl
theorem dX12_sheet_125 : decode cX12_sheet 125 = .ok (.iload 6, 2) := dq21 bw_cX12_sheet_5 5 rfl rfl
theorem dX12_sheet_127 : decode cX12_sheet 127 = .ok (.iload 4, 2) := dq21 bw_cX12_sheet_5 7 rfl rfl
theorem dX12_sheet_129 : decode cX12_sheet 129 = .ok (.iadd, 1) := dq96 bw_cX12_sheet_5 9 rfl rfl
theorem dX12_sheet_130 : decode cX12_sheet 130 = .ok (.istore 6, 2) := dq54 bw_cX12_sheet_5 10 rfl rfl
theorem dX12_sheet_132 : decode cX12_sheet 132 = .ok (.iinc 7 1, 3) := dq132 bw_cX12_sheet_5 12 rfl rfl rfl
theorem dX12_sheet_135 : decode cX12_sheet 135 = .ok (.goto (-89), 3) := dq167 bw_cX12_sheet_5 15 rfl rfl rfl
theorem dX12_sheet_138 : decode cX12_sheet 138 = .ok (.iload_n 1, 1) := dq27 bw_cX12_sheet_5 18 rfl rfl
theorem dX12_sheet_139 : decode cX12_sheet 139 = .ok (.iconst 3, 1) := dq6 bw_cX12_sheet_5 19 rfl rfl
theorem dX12_sheet_140 : decode cX12_sheet 140 = .ok (.if_icmp .ne 8, 3) := dq160 bw_cX12_sheet_5 20 rfl rfl rfl
theorem dX12_sheet_143 : decode cX12_sheet 143 = .ok (.bipush (-3), 2) := dq16 bw_cX12_sheet_5 23 rfl rfl rfl
theorem bw_cX12_sheet_6 : dq_w cX12_sheet 144 [253, 167, 0, 5, 21, 5, 172] = true := by decide +kernel
theorem dX12_sheet_145 : decode cX12_sheet 145 = .ok (.goto 5, 3) := dq167 bw_cX12_sheet_6 1 rfl rfl rfl
theorem dX12_sheet_148 : decode cX12_sheet 148 = .ok (.iload 5, 2) := dq21 bw_cX12_sheet_6 4 rfl rfl
theorem dX12_sheet_150 : decode cX12_sheet 150 = .ok (.ireturn, 1) := dq172 bw_cX12_sheet_6 6 rfl rfl
theorem bw_cX12_isEnd_0 : dq_w cX12_isEnd 0 [42, 180, 0, 74, 27, 46, 28, 159, 0, 13, 42, 180, 0, 80, 27, 46, 28, 160, 0, 7, 4, 167, 0, 4, 3, 172] = true := by decide +kernel
theorem dX12_isEnd_0 : decode cX12_isEnd 0 = .ok (.aload_n 0, 1) := dq42 bw_cX12_isEnd_0 0 rfl rfl
theorem dX12_isEnd_1 : decode cX12_isEnd 1 = .ok (.getfield 74, 3) := dq180 bw_cX12_isEnd_0 1 rfl rfl rfl
theorem dX12_isEnd_4 : decode cX12_isEnd 4 = .ok (.iload_n 1, 1) := dq27 bw_cX12_isEnd_0 4 rfl rfl
theorem dX12_isEnd_5 : decode cX12_isEnd 5 = .ok (.iaload, 1) := dq46 bw_cX12_isEnd_0 5 rfl rfl
theorem dX12_isEnd_6 : decode cX12_isEnd 6 = .ok (.iload_n 2, 1) := dq28 bw_cX12_isEnd_0 6 rfl rfl
theorem dX12_isEnd_7 : decode cX12_isEnd 7 = .ok (.if_icmp .eq 13, 3) := dq159 bw_cX12_isEnd_0 7 rfl rfl rfl
theorem dX12_isEnd_10 : decode cX12_isEnd 10 = .ok (.aload_n 0, 1) := dq42 bw_cX12_isEnd_0 10 rfl rfl
theorem dX12_isEnd_11 : decode cX12_isEnd 11 = .ok (.getfield 80, 3) := dq180 bw_cX12_isEnd_0 11 rfl rfl rfl
theorem dX12_isEnd_14 : decode cX12_isEnd 14 = .ok (.iload_n 1, 1) := dq27 bw_cX12_isEnd_0 14 rfl rfl
theorem dX12_isEnd_15 : decode cX12_isEnd 15 = .ok (.iaload, 1) := dq46 bw_cX12_isEnd_0 15 rfl rfl
theorem dX12_isEnd_16 : decode cX12_isEnd 16 = .ok (.iload_n 2, 1) := dq28 bw_cX12_isEnd_0 16 rfl rfl
theorem dX12_isEnd_17 : decode cX12_isEnd 17 = .ok (.if_icmp .ne 7, 3) := dq160 bw_cX12_isEnd_0 17 rfl rfl rfl
theorem dX12_isEnd_20 : decode cX12_isEnd 20 = .ok (.iconst 1, 1) := dq4 bw_cX12_isEnd_0 20 rfl rfl
theorem dX12_isEnd_21 : decode cX12_isEnd 21 = .ok (.goto 4, 3) := dq167 bw_cX12_isEnd_0 21 rfl rfl rfl
theorem bw_cX12_isEnd_1 : dq_w cX12_isEnd 24 [3, 172] = true := by decide +kernel
theorem dX12_isEnd_24 : decode cX12_isEnd 24 = .ok (.iconst 0, 1) := dq3 bw_cX12_isEnd_1 0 rfl rfl
theorem dX12_isEnd_25 : decode cX12_isEnd 25 = .ok (.ireturn, 1) := dq172 bw_cX12_isEnd_1 1 rfl rfl
theorem bw_cX12_minutesFrom_0 : dq_w cX12_minutesFrom 0 [42, 180, 0, 83, 27, 46, 28, 42, 180, 0, 74, 27, 46, 160, 0, 7, 3, 167, 0, 9, 42, 180, 0, 98, 27, 46, 96] = true := by decide +kernel
theorem dX12_minutesFrom_0 : decode cX12_minutesFrom 0 = .ok (.aload_n 0, 1) := dq42 bw_cX12_minutesFrom_0 0 rfl rfl
theorem dX12_minutesFrom_1 : decode cX12_minutesFrom 1 = .ok (.getfield 83, 3) := dq180 bw_cX12_minutesFrom_0 1 rfl rfl rfl
theorem dX12_minutesFrom_4 : decode cX12_minutesFrom 4 = .ok (.iload_n 1, 1) := dq27 bw_cX12_minutesFrom_0 4 rfl rfl
theorem dX12_minutesFrom_5 : decode cX12_minutesFrom 5 = .ok (.iaload, 1) := dq46 bw_cX12_minutesFrom_0 5 rfl rfl
theorem dX12_minutesFrom_6 : decode cX12_minutesFrom 6 = .ok (.iload_n 2, 1) := dq28 bw_cX12_minutesFrom_0 6 rfl rfl
theorem dX12_minutesFrom_7 : decode cX12_minutesFrom 7 = .ok (.aload_n 0, 1) := dq42 bw_cX12_minutesFrom_0 7 rfl rfl
theorem dX12_minutesFrom_8 : decode cX12_minutesFrom 8 = .ok (.getfield 74, 3) := dq180 bw_cX12_minutesFrom_0 8 rfl rfl rfl
theorem dX12_minutesFrom_11 : decode cX12_minutesFrom 11 = .ok (.iload_n 1, 1) := dq27 bw_cX12_minutesFrom_0 11 rfl rfl
theorem dX12_minutesFrom_12 : decode cX12_minutesFrom 12 = .ok (.iaload, 1) := dq46 bw_cX12_minutesFrom_0 12 rfl rfl
theorem dX12_minutesFrom_13 : decode cX12_minutesFrom 13 = .ok (.if_icmp .ne 7, 3) := dq160 bw_cX12_minutesFrom_0 13 rfl rfl rfl
theorem dX12_minutesFrom_16 : decode cX12_minutesFrom 16 = .ok (.iconst 0, 1) := dq3 bw_cX12_minutesFrom_0 16 rfl rfl
theorem dX12_minutesFrom_17 : decode cX12_minutesFrom 17 = .ok (.goto 9, 3) := dq167 bw_cX12_minutesFrom_0 17 rfl rfl rfl
theorem dX12_minutesFrom_20 : decode cX12_minutesFrom 20 = .ok (.aload_n 0, 1) := dq42 bw_cX12_minutesFrom_0 20 rfl rfl
theorem dX12_minutesFrom_21 : decode cX12_minutesFrom 21 = .ok (.getfield 98, 3) := dq180 bw_cX12_minutesFrom_0 21 rfl rfl rfl
theorem bw_cX12_minutesFrom_1 : dq_w cX12_minutesFrom 24 [27, 46, 96, 172] = true := by decide +kernel
theorem dX12_minutesFrom_24 : decode cX12_minutesFrom 24 = .ok (.iload_n 1, 1) := dq27 bw_cX12_minutesFrom_1 0 rfl rfl
theorem dX12_minutesFrom_25 : decode cX12_minutesFrom 25 = .ok (.iaload, 1) := dq46 bw_cX12_minutesFrom_1 1 rfl rfl
theorem dX12_minutesFrom_26 : decode cX12_minutesFrom 26 = .ok (.iadd, 1) := dq96 bw_cX12_minutesFrom_1 2 rfl rfl
theorem dX12_minutesFrom_27 : decode cX12_minutesFrom 27 = .ok (.ireturn, 1) := dq172 bw_cX12_minutesFrom_1 3 rfl rfl
theorem bw_cX12_isLight_0 : dq_w cX12_isLight 0 [26, 16, 60, 112, 16, 40, 162, 0, 7, 4, 167, 0, 4, 3, 172] = true := by decide +kernel
theorem dX12_isLight_0 : decode cX12_isLight 0 = .ok (.iload_n 0, 1) := dq26 bw_cX12_isLight_0 0 rfl rfl
theorem dX12_isLight_1 : decode cX12_isLight 1 = .ok (.bipush 60, 2) := dq16 bw_cX12_isLight_0 1 rfl rfl rfl
theorem dX12_isLight_3 : decode cX12_isLight 3 = .ok (.irem, 1) := dq112 bw_cX12_isLight_0 3 rfl rfl
theorem dX12_isLight_4 : decode cX12_isLight 4 = .ok (.bipush 40, 2) := dq16 bw_cX12_isLight_0 4 rfl rfl rfl
theorem dX12_isLight_6 : decode cX12_isLight 6 = .ok (.if_icmp .ge 7, 3) := dq162 bw_cX12_isLight_0 6 rfl rfl rfl
theorem dX12_isLight_9 : decode cX12_isLight 9 = .ok (.iconst 1, 1) := dq4 bw_cX12_isLight_0 9 rfl rfl
theorem dX12_isLight_10 : decode cX12_isLight 10 = .ok (.goto 4, 3) := dq167 bw_cX12_isLight_0 10 rfl rfl rfl
theorem dX12_isLight_13 : decode cX12_isLight 13 = .ok (.iconst 0, 1) := dq3 bw_cX12_isLight_0 13 rfl rfl
theorem dX12_isLight_14 : decode cX12_isLight 14 = .ok (.ireturn, 1) := dq172 bw_cX12_isLight_0 14 rfl rfl
theorem bw_cX12_whyNot_0 : dq_w cX12_whyNot 0 [42, 27, 42, 180, 0, 177, 182, 0, 180, 154, 0, 6, 16, 254, 172, 42, 27, 42, 180, 0, 148, 182, 0, 151, 154, 0, 6] = true := by decide +kernel
theorem dX12_whyNot_0 : decode cX12_whyNot 0 = .ok (.aload_n 0, 1) := dq42 bw_cX12_whyNot_0 0 rfl rfl
theorem dX12_whyNot_1 : decode cX12_whyNot 1 = .ok (.iload_n 1, 1) := dq27 bw_cX12_whyNot_0 1 rfl rfl
theorem dX12_whyNot_2 : decode cX12_whyNot 2 = .ok (.aload_n 0, 1) := dq42 bw_cX12_whyNot_0 2 rfl rfl
theorem dX12_whyNot_3 : decode cX12_whyNot 3 = .ok (.getfield 177, 3) := dq180 bw_cX12_whyNot_0 3 rfl rfl rfl
theorem dX12_whyNot_6 : decode cX12_whyNot 6 = .ok (.invokevirtual 180, 3) := dq182 bw_cX12_whyNot_0 6 rfl rfl rfl
theorem dX12_whyNot_9 : decode cX12_whyNot 9 = .ok (.ifCond .ne 6, 3) := dq154 bw_cX12_whyNot_0 9 rfl rfl rfl
theorem dX12_whyNot_12 : decode cX12_whyNot 12 = .ok (.bipush (-2), 2) := dq16 bw_cX12_whyNot_0 12 rfl rfl rfl
theorem dX12_whyNot_14 : decode cX12_whyNot 14 = .ok (.ireturn, 1) := dq172 bw_cX12_whyNot_0 14 rfl rfl
theorem dX12_whyNot_15 : decode cX12_whyNot 15 = .ok (.aload_n 0, 1) := dq42 bw_cX12_whyNot_0 15 rfl rfl
theorem dX12_whyNot_16 : decode cX12_whyNot 16 = .ok (.iload_n 1, 1) := dq27 bw_cX12_whyNot_0 16 rfl rfl
theorem dX12_whyNot_17 : decode cX12_whyNot 17 = .ok (.aload_n 0, 1) := dq42 bw_cX12_whyNot_0 17 rfl rfl
theorem dX12_whyNot_18 : decode cX12_whyNot 18 = .ok (.getfield 148, 3) := dq180 bw_cX12_whyNot_0 18 rfl rfl rfl
theorem dX12_whyNot_21 : decode cX12_whyNot 21 = .ok (.invokevirtual 151, 3) := dq182 bw_cX12_whyNot_0 21 rfl rfl rfl
theorem bw_cX12_whyNot_1 : dq_w cX12_whyNot 24 [154, 0, 6, 16, 253, 172, 42, 180, 0, 123, 27, 184, 0, 144, 153, 0, 16, 42, 180, 0, 148, 184, 0, 183, 154, 0, 6] = true := by decide +kernel
theorem dX12_whyNot_24 : decode cX12_whyNot 24 = .ok (.ifCond .ne 6, 3) := dq154 bw_cX12_whyNot_1 0 rfl rfl rfl
theorem dX12_whyNot_27 : decode cX12_whyNot 27 = .ok (.bipush (-3), 2) := dq16 bw_cX12_whyNot_1 3 rfl rfl rfl
theorem dX12_whyNot_29 : decode cX12_whyNot 29 = .ok (.ireturn, 1) := dq172 bw_cX12_whyNot_1 5 rfl rfl
theorem dX12_whyNot_30 : decode cX12_whyNot 30 = .ok (.aload_n 0, 1) := dq42 bw_cX12_whyNot_1 6 rfl rfl
theorem dX12_whyNot_31 : decode cX12_whyNot 31 = .ok (.getfield 123, 3) := dq180 bw_cX12_whyNot_1 7 rfl rfl rfl
theorem dX12_whyNot_34 : decode cX12_whyNot 34 = .ok (.iload_n 1, 1) := dq27 bw_cX12_whyNot_1 10 rfl rfl
theorem dX12_whyNot_35 : decode cX12_whyNot 35 = .ok (.invokestatic 144, 3) := dq184 bw_cX12_whyNot_1 11 rfl rfl rfl
theorem dX12_whyNot_38 : decode cX12_whyNot 38 = .ok (.ifCond .eq 16, 3) := dq153 bw_cX12_whyNot_1 14 rfl rfl rfl
theorem dX12_whyNot_41 : decode cX12_whyNot 41 = .ok (.aload_n 0, 1) := dq42 bw_cX12_whyNot_1 17 rfl rfl
theorem dX12_whyNot_42 : decode cX12_whyNot 42 = .ok (.getfield 148, 3) := dq180 bw_cX12_whyNot_1 18 rfl rfl rfl
theorem dX12_whyNot_45 : decode cX12_whyNot 45 = .ok (.invokestatic 183, 3) := dq184 bw_cX12_whyNot_1 21 rfl rfl rfl
theorem bw_cX12_whyNot_2 : dq_w cX12_whyNot 48 [154, 0, 6, 16, 252, 172, 42, 180, 0, 148, 42, 27, 42, 180, 0, 177, 182, 0, 186, 96, 42, 180, 0, 169, 164, 0, 8] = true := by decide +kernel
theorem dX12_whyNot_48 : decode cX12_whyNot 48 = .ok (.ifCond .ne 6, 3) := dq154 bw_cX12_whyNot_2 0 rfl rfl rfl
theorem dX12_whyNot_51 : decode cX12_whyNot 51 = .ok (.bipush (-4), 2) := dq16 bw_cX12_whyNot_2 3 rfl rfl rfl
theorem dX12_whyNot_53 : decode cX12_whyNot 53 = .ok (.ireturn, 1) := dq172 bw_cX12_whyNot_2 5 rfl rfl
theorem dX12_whyNot_54 : decode cX12_whyNot 54 = .ok (.aload_n 0, 1) := dq42 bw_cX12_whyNot_2 6 rfl rfl
theorem dX12_whyNot_55 : decode cX12_whyNot 55 = .ok (.getfield 148, 3) := dq180 bw_cX12_whyNot_2 7 rfl rfl rfl
theorem dX12_whyNot_58 : decode cX12_whyNot 58 = .ok (.aload_n 0, 1) := dq42 bw_cX12_whyNot_2 10 rfl rfl
theorem dX12_whyNot_59 : decode cX12_whyNot 59 = .ok (.iload_n 1, 1) := dq27 bw_cX12_whyNot_2 11 rfl rfl
theorem dX12_whyNot_60 : decode cX12_whyNot 60 = .ok (.aload_n 0, 1) := dq42 bw_cX12_whyNot_2 12 rfl rfl
theorem dX12_whyNot_61 : decode cX12_whyNot 61 = .ok (.getfield 177, 3) := dq180 bw_cX12_whyNot_2 13 rfl rfl rfl
theorem dX12_whyNot_64 : decode cX12_whyNot 64 = .ok (.invokevirtual 186, 3) := dq182 bw_cX12_whyNot_2 16 rfl rfl rfl
theorem dX12_whyNot_67 : decode cX12_whyNot 67 = .ok (.iadd, 1) := dq96 bw_cX12_whyNot_2 19 rfl rfl
theorem dX12_whyNot_68 : decode cX12_whyNot 68 = .ok (.aload_n 0, 1) := dq42 bw_cX12_whyNot_2 20 rfl rfl
theorem dX12_whyNot_69 : decode cX12_whyNot 69 = .ok (.getfield 169, 3) := dq180 bw_cX12_whyNot_2 21 rfl rfl rfl
theorem bw_cX12_whyNot_3 : dq_w cX12_whyNot 72 [164, 0, 8, 16, 251, 167, 0, 4, 3, 172] = true := by decide +kernel
theorem dX12_whyNot_72 : decode cX12_whyNot 72 = .ok (.if_icmp .le 8, 3) := dq164 bw_cX12_whyNot_3 0 rfl rfl rfl
theorem dX12_whyNot_75 : decode cX12_whyNot 75 = .ok (.bipush (-5), 2) := dq16 bw_cX12_whyNot_3 3 rfl rfl rfl
theorem dX12_whyNot_77 : decode cX12_whyNot 77 = .ok (.goto 4, 3) := dq167 bw_cX12_whyNot_3 5 rfl rfl rfl
theorem dX12_whyNot_80 : decode cX12_whyNot 80 = .ok (.iconst 0, 1) := dq3 bw_cX12_whyNot_3 8 rfl rfl
theorem dX12_whyNot_81 : decode cX12_whyNot 81 = .ok (.ireturn, 1) := dq172 bw_cX12_whyNot_3 9 rfl rfl
theorem bw_cX12_putsBy_0 : dq_w cX12_putsBy 0 [42, 180, 0, 126, 16, 30, 160, 0, 83, 4, 61, 28, 16, 30, 162, 0, 65, 42, 180, 0, 189, 28, 4, 100, 42, 180, 0] = true := by decide +kernel
theorem dX12_putsBy_0 : decode cX12_putsBy 0 = .ok (.aload_n 0, 1) := dq42 bw_cX12_putsBy_0 0 rfl rfl
theorem dX12_putsBy_1 : decode cX12_putsBy 1 = .ok (.getfield 126, 3) := dq180 bw_cX12_putsBy_0 1 rfl rfl rfl
theorem dX12_putsBy_4 : decode cX12_putsBy 4 = .ok (.bipush 30, 2) := dq16 bw_cX12_putsBy_0 4 rfl rfl rfl
theorem dX12_putsBy_6 : decode cX12_putsBy 6 = .ok (.if_icmp .ne 83, 3) := dq160 bw_cX12_putsBy_0 6 rfl rfl rfl
theorem dX12_putsBy_9 : decode cX12_putsBy 9 = .ok (.iconst 1, 1) := dq4 bw_cX12_putsBy_0 9 rfl rfl
theorem dX12_putsBy_10 : decode cX12_putsBy 10 = .ok (.istore_n 2, 1) := dq61 bw_cX12_putsBy_0 10 rfl rfl
theorem dX12_putsBy_11 : decode cX12_putsBy 11 = .ok (.iload_n 2, 1) := dq28 bw_cX12_putsBy_0 11 rfl rfl
theorem dX12_putsBy_12 : decode cX12_putsBy 12 = .ok (.bipush 30, 2) := dq16 bw_cX12_putsBy_0 12 rfl rfl rfl
theorem dX12_putsBy_14 : decode cX12_putsBy 14 = .ok (.if_icmp .ge 65, 3) := dq162 bw_cX12_putsBy_0 14 rfl rfl rfl
theorem dX12_putsBy_17 : decode cX12_putsBy 17 = .ok (.aload_n 0, 1) := dq42 bw_cX12_putsBy_0 17 rfl rfl
theorem dX12_putsBy_18 : decode cX12_putsBy 18 = .ok (.getfield 189, 3) := dq180 bw_cX12_putsBy_0 18 rfl rfl rfl
theorem dX12_putsBy_21 : decode cX12_putsBy 21 = .ok (.iload_n 2, 1) := dq28 bw_cX12_putsBy_0 21 rfl rfl
theorem dX12_putsBy_22 : decode cX12_putsBy 22 = .ok (.iconst 1, 1) := dq4 bw_cX12_putsBy_0 22 rfl rfl
theorem dX12_putsBy_23 : decode cX12_putsBy 23 = .ok (.isub, 1) := dq100 bw_cX12_putsBy_0 23 rfl rfl
theorem bw_cX12_putsBy_1 : dq_w cX12_putsBy 24 [42, 180, 0, 189, 28, 46, 79, 42, 180, 0, 192, 28, 4, 100, 42, 180, 0, 192, 28, 46, 79, 42, 180, 0, 195, 28, 4] = true := by decide +kernel
theorem dX12_putsBy_24 : decode cX12_putsBy 24 = .ok (.aload_n 0, 1) := dq42 bw_cX12_putsBy_1 0 rfl rfl
theorem dX12_putsBy_25 : decode cX12_putsBy 25 = .ok (.getfield 189, 3) := dq180 bw_cX12_putsBy_1 1 rfl rfl rfl
theorem dX12_putsBy_28 : decode cX12_putsBy 28 = .ok (.iload_n 2, 1) := dq28 bw_cX12_putsBy_1 4 rfl rfl
theorem dX12_putsBy_29 : decode cX12_putsBy 29 = .ok (.iaload, 1) := dq46 bw_cX12_putsBy_1 5 rfl rfl
theorem dX12_putsBy_30 : decode cX12_putsBy 30 = .ok (.iastore, 1) := dq79 bw_cX12_putsBy_1 6 rfl rfl
theorem dX12_putsBy_31 : decode cX12_putsBy 31 = .ok (.aload_n 0, 1) := dq42 bw_cX12_putsBy_1 7 rfl rfl
theorem dX12_putsBy_32 : decode cX12_putsBy 32 = .ok (.getfield 192, 3) := dq180 bw_cX12_putsBy_1 8 rfl rfl rfl
theorem dX12_putsBy_35 : decode cX12_putsBy 35 = .ok (.iload_n 2, 1) := dq28 bw_cX12_putsBy_1 11 rfl rfl
theorem dX12_putsBy_36 : decode cX12_putsBy 36 = .ok (.iconst 1, 1) := dq4 bw_cX12_putsBy_1 12 rfl rfl
theorem dX12_putsBy_37 : decode cX12_putsBy 37 = .ok (.isub, 1) := dq100 bw_cX12_putsBy_1 13 rfl rfl
theorem dX12_putsBy_38 : decode cX12_putsBy 38 = .ok (.aload_n 0, 1) := dq42 bw_cX12_putsBy_1 14 rfl rfl
theorem dX12_putsBy_39 : decode cX12_putsBy 39 = .ok (.getfield 192, 3) := dq180 bw_cX12_putsBy_1 15 rfl rfl rfl
theorem dX12_putsBy_42 : decode cX12_putsBy 42 = .ok (.iload_n 2, 1) := dq28 bw_cX12_putsBy_1 18 rfl rfl
theorem dX12_putsBy_43 : decode cX12_putsBy 43 = .ok (.iaload, 1) := dq46 bw_cX12_putsBy_1 19 rfl rfl
theorem dX12_putsBy_44 : decode cX12_putsBy 44 = .ok (.iastore, 1) := dq79 bw_cX12_putsBy_1 20 rfl rfl
theorem dX12_putsBy_45 : decode cX12_putsBy 45 = .ok (.aload_n 0, 1) := dq42 bw_cX12_putsBy_1 21 rfl rfl
theorem dX12_putsBy_46 : decode cX12_putsBy 46 = .ok (.getfield 195, 3) := dq180 bw_cX12_putsBy_1 22 rfl rfl rfl
theorem bw_cX12_putsBy_2 : dq_w cX12_putsBy 48 [195, 28, 4, 100, 42, 180, 0, 195, 28, 46, 79, 42, 180, 0, 198, 28, 4, 100, 42, 180, 0, 198, 28, 46, 79, 132, 2] = true := by decide +kernel
theorem dX12_putsBy_49 : decode cX12_putsBy 49 = .ok (.iload_n 2, 1) := dq28 bw_cX12_putsBy_2 1 rfl rfl
theorem dX12_putsBy_50 : decode cX12_putsBy 50 = .ok (.iconst 1, 1) := dq4 bw_cX12_putsBy_2 2 rfl rfl
theorem dX12_putsBy_51 : decode cX12_putsBy 51 = .ok (.isub, 1) := dq100 bw_cX12_putsBy_2 3 rfl rfl
theorem dX12_putsBy_52 : decode cX12_putsBy 52 = .ok (.aload_n 0, 1) := dq42 bw_cX12_putsBy_2 4 rfl rfl
theorem dX12_putsBy_53 : decode cX12_putsBy 53 = .ok (.getfield 195, 3) := dq180 bw_cX12_putsBy_2 5 rfl rfl rfl
theorem dX12_putsBy_56 : decode cX12_putsBy 56 = .ok (.iload_n 2, 1) := dq28 bw_cX12_putsBy_2 8 rfl rfl
theorem dX12_putsBy_57 : decode cX12_putsBy 57 = .ok (.iaload, 1) := dq46 bw_cX12_putsBy_2 9 rfl rfl
theorem dX12_putsBy_58 : decode cX12_putsBy 58 = .ok (.iastore, 1) := dq79 bw_cX12_putsBy_2 10 rfl rfl
theorem dX12_putsBy_59 : decode cX12_putsBy 59 = .ok (.aload_n 0, 1) := dq42 bw_cX12_putsBy_2 11 rfl rfl
theorem dX12_putsBy_60 : decode cX12_putsBy 60 = .ok (.getfield 198, 3) := dq180 bw_cX12_putsBy_2 12 rfl rfl rfl
theorem dX12_putsBy_63 : decode cX12_putsBy 63 = .ok (.iload_n 2, 1) := dq28 bw_cX12_putsBy_2 15 rfl rfl
theorem dX12_putsBy_64 : decode cX12_putsBy 64 = .ok (.iconst 1, 1) := dq4 bw_cX12_putsBy_2 16 rfl rfl
theorem dX12_putsBy_65 : decode cX12_putsBy 65 = .ok (.isub, 1) := dq100 bw_cX12_putsBy_2 17 rfl rfl
theorem dX12_putsBy_66 : decode cX12_putsBy 66 = .ok (.aload_n 0, 1) := dq42 bw_cX12_putsBy_2 18 rfl rfl
theorem dX12_putsBy_67 : decode cX12_putsBy 67 = .ok (.getfield 198, 3) := dq180 bw_cX12_putsBy_2 19 rfl rfl rfl
theorem dX12_putsBy_70 : decode cX12_putsBy 70 = .ok (.iload_n 2, 1) := dq28 bw_cX12_putsBy_2 22 rfl rfl
theorem dX12_putsBy_71 : decode cX12_putsBy 71 = .ok (.iaload, 1) := dq46 bw_cX12_putsBy_2 23 rfl rfl
theorem bw_cX12_putsBy_3 : dq_w cX12_putsBy 72 [79, 132, 2, 1, 167, 255, 191, 42, 89, 180, 0, 126, 4, 100, 181, 0, 126, 42, 180, 0, 189, 42, 180, 0, 126, 27, 79] = true := by decide +kernel
theorem dX12_putsBy_72 : decode cX12_putsBy 72 = .ok (.iastore, 1) := dq79 bw_cX12_putsBy_3 0 rfl rfl
theorem dX12_putsBy_73 : decode cX12_putsBy 73 = .ok (.iinc 2 1, 3) := dq132 bw_cX12_putsBy_3 1 rfl rfl rfl
theorem dX12_putsBy_76 : decode cX12_putsBy 76 = .ok (.goto (-65), 3) := dq167 bw_cX12_putsBy_3 4 rfl rfl rfl
theorem dX12_putsBy_79 : decode cX12_putsBy 79 = .ok (.aload_n 0, 1) := dq42 bw_cX12_putsBy_3 7 rfl rfl
theorem dX12_putsBy_80 : decode cX12_putsBy 80 = .ok (.dup, 1) := dq89 bw_cX12_putsBy_3 8 rfl rfl
theorem dX12_putsBy_81 : decode cX12_putsBy 81 = .ok (.getfield 126, 3) := dq180 bw_cX12_putsBy_3 9 rfl rfl rfl
theorem dX12_putsBy_84 : decode cX12_putsBy 84 = .ok (.iconst 1, 1) := dq4 bw_cX12_putsBy_3 12 rfl rfl
theorem dX12_putsBy_85 : decode cX12_putsBy 85 = .ok (.isub, 1) := dq100 bw_cX12_putsBy_3 13 rfl rfl
theorem dX12_putsBy_86 : decode cX12_putsBy 86 = .ok (.putfield 126, 3) := dq181 bw_cX12_putsBy_3 14 rfl rfl rfl
theorem dX12_putsBy_89 : decode cX12_putsBy 89 = .ok (.aload_n 0, 1) := dq42 bw_cX12_putsBy_3 17 rfl rfl
theorem dX12_putsBy_90 : decode cX12_putsBy 90 = .ok (.getfield 189, 3) := dq180 bw_cX12_putsBy_3 18 rfl rfl rfl
theorem dX12_putsBy_93 : decode cX12_putsBy 93 = .ok (.aload_n 0, 1) := dq42 bw_cX12_putsBy_3 21 rfl rfl
theorem dX12_putsBy_94 : decode cX12_putsBy 94 = .ok (.getfield 126, 3) := dq180 bw_cX12_putsBy_3 22 rfl rfl rfl
theorem bw_cX12_putsBy_4 : dq_w cX12_putsBy 96 [126, 27, 79, 42, 180, 0, 192, 42, 180, 0, 126, 42, 180, 0, 177, 79, 42, 180, 0, 195, 42, 180, 0, 126, 42, 180, 0] = true := by decide +kernel
theorem dX12_putsBy_97 : decode cX12_putsBy 97 = .ok (.iload_n 1, 1) := dq27 bw_cX12_putsBy_4 1 rfl rfl
theorem dX12_putsBy_98 : decode cX12_putsBy 98 = .ok (.iastore, 1) := dq79 bw_cX12_putsBy_4 2 rfl rfl
theorem dX12_putsBy_99 : decode cX12_putsBy 99 = .ok (.aload_n 0, 1) := dq42 bw_cX12_putsBy_4 3 rfl rfl
theorem dX12_putsBy_100 : decode cX12_putsBy 100 = .ok (.getfield 192, 3) := dq180 bw_cX12_putsBy_4 4 rfl rfl rfl
theorem dX12_putsBy_103 : decode cX12_putsBy 103 = .ok (.aload_n 0, 1) := dq42 bw_cX12_putsBy_4 7 rfl rfl
theorem dX12_putsBy_104 : decode cX12_putsBy 104 = .ok (.getfield 126, 3) := dq180 bw_cX12_putsBy_4 8 rfl rfl rfl
theorem dX12_putsBy_107 : decode cX12_putsBy 107 = .ok (.aload_n 0, 1) := dq42 bw_cX12_putsBy_4 11 rfl rfl
theorem dX12_putsBy_108 : decode cX12_putsBy 108 = .ok (.getfield 177, 3) := dq180 bw_cX12_putsBy_4 12 rfl rfl rfl
theorem dX12_putsBy_111 : decode cX12_putsBy 111 = .ok (.iastore, 1) := dq79 bw_cX12_putsBy_4 15 rfl rfl
theorem dX12_putsBy_112 : decode cX12_putsBy 112 = .ok (.aload_n 0, 1) := dq42 bw_cX12_putsBy_4 16 rfl rfl
theorem dX12_putsBy_113 : decode cX12_putsBy 113 = .ok (.getfield 195, 3) := dq180 bw_cX12_putsBy_4 17 rfl rfl rfl
theorem dX12_putsBy_116 : decode cX12_putsBy 116 = .ok (.aload_n 0, 1) := dq42 bw_cX12_putsBy_4 20 rfl rfl
theorem dX12_putsBy_117 : decode cX12_putsBy 117 = .ok (.getfield 126, 3) := dq180 bw_cX12_putsBy_4 21 rfl rfl rfl
theorem bw_cX12_putsBy_5 : dq_w cX12_putsBy 120 [42, 180, 0, 148, 79, 42, 180, 0, 198, 42, 180, 0, 126, 42, 180, 0, 104, 27, 46, 79, 42, 89, 180, 0, 126, 4, 96] = true := by decide +kernel
theorem dX12_putsBy_120 : decode cX12_putsBy 120 = .ok (.aload_n 0, 1) := dq42 bw_cX12_putsBy_5 0 rfl rfl
theorem dX12_putsBy_121 : decode cX12_putsBy 121 = .ok (.getfield 148, 3) := dq180 bw_cX12_putsBy_5 1 rfl rfl rfl
theorem dX12_putsBy_124 : decode cX12_putsBy 124 = .ok (.iastore, 1) := dq79 bw_cX12_putsBy_5 4 rfl rfl
theorem dX12_putsBy_125 : decode cX12_putsBy 125 = .ok (.aload_n 0, 1) := dq42 bw_cX12_putsBy_5 5 rfl rfl
theorem dX12_putsBy_126 : decode cX12_putsBy 126 = .ok (.getfield 198, 3) := dq180 bw_cX12_putsBy_5 6 rfl rfl rfl
theorem dX12_putsBy_129 : decode cX12_putsBy 129 = .ok (.aload_n 0, 1) := dq42 bw_cX12_putsBy_5 9 rfl rfl
theorem dX12_putsBy_130 : decode cX12_putsBy 130 = .ok (.getfield 126, 3) := dq180 bw_cX12_putsBy_5 10 rfl rfl rfl
theorem dX12_putsBy_133 : decode cX12_putsBy 133 = .ok (.aload_n 0, 1) := dq42 bw_cX12_putsBy_5 13 rfl rfl
theorem dX12_putsBy_134 : decode cX12_putsBy 134 = .ok (.getfield 104, 3) := dq180 bw_cX12_putsBy_5 14 rfl rfl rfl
theorem dX12_putsBy_137 : decode cX12_putsBy 137 = .ok (.iload_n 1, 1) := dq27 bw_cX12_putsBy_5 17 rfl rfl
theorem dX12_putsBy_138 : decode cX12_putsBy 138 = .ok (.iaload, 1) := dq46 bw_cX12_putsBy_5 18 rfl rfl
theorem dX12_putsBy_139 : decode cX12_putsBy 139 = .ok (.iastore, 1) := dq79 bw_cX12_putsBy_5 19 rfl rfl
theorem dX12_putsBy_140 : decode cX12_putsBy 140 = .ok (.aload_n 0, 1) := dq42 bw_cX12_putsBy_5 20 rfl rfl
theorem dX12_putsBy_141 : decode cX12_putsBy 141 = .ok (.dup, 1) := dq89 bw_cX12_putsBy_5 21 rfl rfl
theorem dX12_putsBy_142 : decode cX12_putsBy 142 = .ok (.getfield 126, 3) := dq180 bw_cX12_putsBy_5 22 rfl rfl rfl
theorem bw_cX12_putsBy_6 : dq_w cX12_putsBy 144 [126, 4, 96, 181, 0, 126, 177] = true := by decide +kernel
theorem dX12_putsBy_145 : decode cX12_putsBy 145 = .ok (.iconst 1, 1) := dq4 bw_cX12_putsBy_6 1 rfl rfl
theorem dX12_putsBy_146 : decode cX12_putsBy 146 = .ok (.iadd, 1) := dq96 bw_cX12_putsBy_6 2 rfl rfl
theorem dX12_putsBy_147 : decode cX12_putsBy 147 = .ok (.putfield 126, 3) := dq181 bw_cX12_putsBy_6 3 rfl rfl rfl
theorem dX12_putsBy_150 : decode cX12_putsBy 150 = .ok (.return_, 1) := dq177 bw_cX12_putsBy_6 6 rfl rfl
theorem bw_cX12_endOf_0 : dq_w cX12_endOf 0 [42, 180, 0, 74, 27, 46, 28, 160, 0, 12, 42, 180, 0, 80, 27, 46, 167, 0, 9, 42, 180, 0, 74, 27, 46, 172] = true := by decide +kernel
theorem dX12_endOf_0 : decode cX12_endOf 0 = .ok (.aload_n 0, 1) := dq42 bw_cX12_endOf_0 0 rfl rfl
theorem dX12_endOf_1 : decode cX12_endOf 1 = .ok (.getfield 74, 3) := dq180 bw_cX12_endOf_0 1 rfl rfl rfl
theorem dX12_endOf_4 : decode cX12_endOf 4 = .ok (.iload_n 1, 1) := dq27 bw_cX12_endOf_0 4 rfl rfl
theorem dX12_endOf_5 : decode cX12_endOf 5 = .ok (.iaload, 1) := dq46 bw_cX12_endOf_0 5 rfl rfl
theorem dX12_endOf_6 : decode cX12_endOf 6 = .ok (.iload_n 2, 1) := dq28 bw_cX12_endOf_0 6 rfl rfl
theorem dX12_endOf_7 : decode cX12_endOf 7 = .ok (.if_icmp .ne 12, 3) := dq160 bw_cX12_endOf_0 7 rfl rfl rfl
theorem dX12_endOf_10 : decode cX12_endOf 10 = .ok (.aload_n 0, 1) := dq42 bw_cX12_endOf_0 10 rfl rfl
theorem dX12_endOf_11 : decode cX12_endOf 11 = .ok (.getfield 80, 3) := dq180 bw_cX12_endOf_0 11 rfl rfl rfl
theorem dX12_endOf_14 : decode cX12_endOf 14 = .ok (.iload_n 1, 1) := dq27 bw_cX12_endOf_0 14 rfl rfl
theorem dX12_endOf_15 : decode cX12_endOf 15 = .ok (.iaload, 1) := dq46 bw_cX12_endOf_0 15 rfl rfl
theorem dX12_endOf_16 : decode cX12_endOf 16 = .ok (.goto 9, 3) := dq167 bw_cX12_endOf_0 16 rfl rfl rfl
theorem dX12_endOf_19 : decode cX12_endOf 19 = .ok (.aload_n 0, 1) := dq42 bw_cX12_endOf_0 19 rfl rfl
theorem dX12_endOf_20 : decode cX12_endOf 20 = .ok (.getfield 74, 3) := dq180 bw_cX12_endOf_0 20 rfl rfl rfl
theorem dX12_endOf_23 : decode cX12_endOf 23 = .ok (.iload_n 1, 1) := dq27 bw_cX12_endOf_0 23 rfl rfl
theorem bw_cX12_endOf_1 : dq_w cX12_endOf 24 [46, 172] = true := by decide +kernel
theorem dX12_endOf_24 : decode cX12_endOf 24 = .ok (.iaload, 1) := dq46 bw_cX12_endOf_1 0 rfl rfl
theorem dX12_endOf_25 : decode cX12_endOf 25 = .ok (.ireturn, 1) := dq172 bw_cX12_endOf_1 1 rfl rfl
theorem bw_cX12_walks_0 : dq_w cX12_walks 0 [42, 27, 42, 180, 0, 177, 182, 0, 186, 61, 42, 180, 0, 104, 27, 42, 180, 0, 148, 184, 0, 129, 79, 42, 42, 27, 42] = true := by decide +kernel
theorem dX12_walks_0 : decode cX12_walks 0 = .ok (.aload_n 0, 1) := dq42 bw_cX12_walks_0 0 rfl rfl
theorem dX12_walks_1 : decode cX12_walks 1 = .ok (.iload_n 1, 1) := dq27 bw_cX12_walks_0 1 rfl rfl
theorem dX12_walks_2 : decode cX12_walks 2 = .ok (.aload_n 0, 1) := dq42 bw_cX12_walks_0 2 rfl rfl
theorem dX12_walks_3 : decode cX12_walks 3 = .ok (.getfield 177, 3) := dq180 bw_cX12_walks_0 3 rfl rfl rfl
theorem dX12_walks_6 : decode cX12_walks 6 = .ok (.invokevirtual 186, 3) := dq182 bw_cX12_walks_0 6 rfl rfl rfl
theorem dX12_walks_9 : decode cX12_walks 9 = .ok (.istore_n 2, 1) := dq61 bw_cX12_walks_0 9 rfl rfl
theorem dX12_walks_10 : decode cX12_walks 10 = .ok (.aload_n 0, 1) := dq42 bw_cX12_walks_0 10 rfl rfl
theorem dX12_walks_11 : decode cX12_walks 11 = .ok (.getfield 104, 3) := dq180 bw_cX12_walks_0 11 rfl rfl rfl
theorem dX12_walks_14 : decode cX12_walks 14 = .ok (.iload_n 1, 1) := dq27 bw_cX12_walks_0 14 rfl rfl
theorem dX12_walks_15 : decode cX12_walks 15 = .ok (.aload_n 0, 1) := dq42 bw_cX12_walks_0 15 rfl rfl
theorem dX12_walks_16 : decode cX12_walks 16 = .ok (.getfield 148, 3) := dq180 bw_cX12_walks_0 16 rfl rfl rfl
theorem dX12_walks_19 : decode cX12_walks 19 = .ok (.invokestatic 129, 3) := dq184 bw_cX12_walks_0 19 rfl rfl rfl
theorem dX12_walks_22 : decode cX12_walks 22 = .ok (.iastore, 1) := dq79 bw_cX12_walks_0 22 rfl rfl
theorem dX12_walks_23 : decode cX12_walks 23 = .ok (.aload_n 0, 1) := dq42 bw_cX12_walks_0 23 rfl rfl
theorem bw_cX12_walks_1 : dq_w cX12_walks 24 [42, 27, 42, 180, 0, 177, 182, 0, 201, 181, 0, 177, 42, 89, 180, 0, 148, 28, 96, 181, 0, 148, 28, 172] = true := by decide +kernel
theorem dX12_walks_24 : decode cX12_walks 24 = .ok (.aload_n 0, 1) := dq42 bw_cX12_walks_1 0 rfl rfl
theorem dX12_walks_25 : decode cX12_walks 25 = .ok (.iload_n 1, 1) := dq27 bw_cX12_walks_1 1 rfl rfl
theorem dX12_walks_26 : decode cX12_walks 26 = .ok (.aload_n 0, 1) := dq42 bw_cX12_walks_1 2 rfl rfl
theorem dX12_walks_27 : decode cX12_walks 27 = .ok (.getfield 177, 3) := dq180 bw_cX12_walks_1 3 rfl rfl rfl
theorem dX12_walks_30 : decode cX12_walks 30 = .ok (.invokevirtual 201, 3) := dq182 bw_cX12_walks_1 6 rfl rfl rfl
theorem dX12_walks_33 : decode cX12_walks 33 = .ok (.putfield 177, 3) := dq181 bw_cX12_walks_1 9 rfl rfl rfl
theorem dX12_walks_36 : decode cX12_walks 36 = .ok (.aload_n 0, 1) := dq42 bw_cX12_walks_1 12 rfl rfl
theorem dX12_walks_37 : decode cX12_walks 37 = .ok (.dup, 1) := dq89 bw_cX12_walks_1 13 rfl rfl
theorem dX12_walks_38 : decode cX12_walks 38 = .ok (.getfield 148, 3) := dq180 bw_cX12_walks_1 14 rfl rfl rfl
theorem dX12_walks_41 : decode cX12_walks 41 = .ok (.iload_n 2, 1) := dq28 bw_cX12_walks_1 17 rfl rfl
theorem dX12_walks_42 : decode cX12_walks 42 = .ok (.iadd, 1) := dq96 bw_cX12_walks_1 18 rfl rfl
theorem dX12_walks_43 : decode cX12_walks 43 = .ok (.putfield 148, 3) := dq181 bw_cX12_walks_1 19 rfl rfl rfl
theorem dX12_walks_46 : decode cX12_walks 46 = .ok (.iload_n 2, 1) := dq28 bw_cX12_walks_1 22 rfl rfl
theorem dX12_walks_47 : decode cX12_walks 47 = .ok (.ireturn, 1) := dq172 bw_cX12_walks_1 23 rfl rfl
theorem bw_cX12_walk_0 : dq_w cX12_walk 0 [42, 3, 181, 0, 3, 42, 27, 182, 0, 135, 154, 0, 5, 2, 172, 42, 27, 182, 0, 204, 61, 28, 156, 0, 5, 28, 172] = true := by decide +kernel
theorem dX12_walk_0 : decode cX12_walk 0 = .ok (.aload_n 0, 1) := dq42 bw_cX12_walk_0 0 rfl rfl
theorem dX12_walk_1 : decode cX12_walk 1 = .ok (.iconst 0, 1) := dq3 bw_cX12_walk_0 1 rfl rfl
theorem dX12_walk_2 : decode cX12_walk 2 = .ok (.putfield 3, 3) := dq181 bw_cX12_walk_0 2 rfl rfl rfl
theorem dX12_walk_5 : decode cX12_walk 5 = .ok (.aload_n 0, 1) := dq42 bw_cX12_walk_0 5 rfl rfl
theorem dX12_walk_6 : decode cX12_walk 6 = .ok (.iload_n 1, 1) := dq27 bw_cX12_walk_0 6 rfl rfl
theorem dX12_walk_7 : decode cX12_walk 7 = .ok (.invokevirtual 135, 3) := dq182 bw_cX12_walk_0 7 rfl rfl rfl
theorem dX12_walk_10 : decode cX12_walk 10 = .ok (.ifCond .ne 5, 3) := dq154 bw_cX12_walk_0 10 rfl rfl rfl
theorem dX12_walk_13 : decode cX12_walk 13 = .ok (.iconst (-1), 1) := dq2 bw_cX12_walk_0 13 rfl rfl
theorem dX12_walk_14 : decode cX12_walk 14 = .ok (.ireturn, 1) := dq172 bw_cX12_walk_0 14 rfl rfl
theorem dX12_walk_15 : decode cX12_walk 15 = .ok (.aload_n 0, 1) := dq42 bw_cX12_walk_0 15 rfl rfl
theorem dX12_walk_16 : decode cX12_walk 16 = .ok (.iload_n 1, 1) := dq27 bw_cX12_walk_0 16 rfl rfl
theorem dX12_walk_17 : decode cX12_walk 17 = .ok (.invokevirtual 204, 3) := dq182 bw_cX12_walk_0 17 rfl rfl rfl
theorem dX12_walk_20 : decode cX12_walk 20 = .ok (.istore_n 2, 1) := dq61 bw_cX12_walk_0 20 rfl rfl
theorem dX12_walk_21 : decode cX12_walk 21 = .ok (.iload_n 2, 1) := dq28 bw_cX12_walk_0 21 rfl rfl
theorem dX12_walk_22 : decode cX12_walk 22 = .ok (.ifCond .ge 5, 3) := dq156 bw_cX12_walk_0 22 rfl rfl rfl
theorem bw_cX12_walk_1 : dq_w cX12_walk 24 [5, 28, 172, 42, 27, 182, 0, 207, 42, 27, 182, 0, 211, 172] = true := by decide +kernel
theorem dX12_walk_25 : decode cX12_walk 25 = .ok (.iload_n 2, 1) := dq28 bw_cX12_walk_1 1 rfl rfl
theorem dX12_walk_26 : decode cX12_walk 26 = .ok (.ireturn, 1) := dq172 bw_cX12_walk_1 2 rfl rfl
theorem dX12_walk_27 : decode cX12_walk 27 = .ok (.aload_n 0, 1) := dq42 bw_cX12_walk_1 3 rfl rfl
theorem dX12_walk_28 : decode cX12_walk 28 = .ok (.iload_n 1, 1) := dq27 bw_cX12_walk_1 4 rfl rfl
theorem dX12_walk_29 : decode cX12_walk 29 = .ok (.invokevirtual 207, 3) := dq182 bw_cX12_walk_1 5 rfl rfl rfl
theorem dX12_walk_32 : decode cX12_walk 32 = .ok (.aload_n 0, 1) := dq42 bw_cX12_walk_1 8 rfl rfl
theorem dX12_walk_33 : decode cX12_walk 33 = .ok (.iload_n 1, 1) := dq27 bw_cX12_walk_1 9 rfl rfl
theorem dX12_walk_34 : decode cX12_walk 34 = .ok (.invokevirtual 211, 3) := dq182 bw_cX12_walk_1 10 rfl rfl rfl
theorem dX12_walk_37 : decode cX12_walk 37 = .ok (.ireturn, 1) := dq172 bw_cX12_walk_1 13 rfl rfl
theorem bw_cX12_rest_0 : dq_w cX12_rest 0 [42, 3, 181, 0, 3, 27, 133, 9, 20, 0, 167, 184, 0, 17, 154, 0, 5, 2, 172, 42, 180, 0, 148, 27, 96, 42, 180] = true := by decide +kernel
theorem dX12_rest_0 : decode cX12_rest 0 = .ok (.aload_n 0, 1) := dq42 bw_cX12_rest_0 0 rfl rfl
theorem dX12_rest_1 : decode cX12_rest 1 = .ok (.iconst 0, 1) := dq3 bw_cX12_rest_0 1 rfl rfl
theorem dX12_rest_2 : decode cX12_rest 2 = .ok (.putfield 3, 3) := dq181 bw_cX12_rest_0 2 rfl rfl rfl
theorem dX12_rest_5 : decode cX12_rest 5 = .ok (.iload_n 1, 1) := dq27 bw_cX12_rest_0 5 rfl rfl
theorem dX12_rest_6 : decode cX12_rest 6 = .ok (.i2l, 1) := dq133 bw_cX12_rest_0 6 rfl rfl
theorem dX12_rest_7 : decode cX12_rest 7 = .ok (.lconst 0, 1) := dq9 bw_cX12_rest_0 7 rfl rfl
theorem dX12_rest_8 : decode cX12_rest 8 = .ok (.ldc2_w 167, 3) := dq20 bw_cX12_rest_0 8 rfl rfl rfl
theorem dX12_rest_11 : decode cX12_rest 11 = .ok (.invokestatic 17, 3) := dq184 bw_cX12_rest_0 11 rfl rfl rfl
theorem dX12_rest_14 : decode cX12_rest 14 = .ok (.ifCond .ne 5, 3) := dq154 bw_cX12_rest_0 14 rfl rfl rfl
theorem dX12_rest_17 : decode cX12_rest 17 = .ok (.iconst (-1), 1) := dq2 bw_cX12_rest_0 17 rfl rfl
theorem dX12_rest_18 : decode cX12_rest 18 = .ok (.ireturn, 1) := dq172 bw_cX12_rest_0 18 rfl rfl
theorem dX12_rest_19 : decode cX12_rest 19 = .ok (.aload_n 0, 1) := dq42 bw_cX12_rest_0 19 rfl rfl
theorem dX12_rest_20 : decode cX12_rest 20 = .ok (.getfield 148, 3) := dq180 bw_cX12_rest_0 20 rfl rfl rfl
theorem dX12_rest_23 : decode cX12_rest 23 = .ok (.iload_n 1, 1) := dq27 bw_cX12_rest_0 23 rfl rfl
theorem bw_cX12_rest_1 : dq_w cX12_rest 24 [96, 42, 180, 0, 169, 164, 0, 6, 16, 251, 172, 42, 89, 180, 0, 148, 27, 96, 181, 0, 148, 42, 3, 181, 0, 126, 42] = true := by decide +kernel
theorem dX12_rest_24 : decode cX12_rest 24 = .ok (.iadd, 1) := dq96 bw_cX12_rest_1 0 rfl rfl
theorem dX12_rest_25 : decode cX12_rest 25 = .ok (.aload_n 0, 1) := dq42 bw_cX12_rest_1 1 rfl rfl
theorem dX12_rest_26 : decode cX12_rest 26 = .ok (.getfield 169, 3) := dq180 bw_cX12_rest_1 2 rfl rfl rfl
theorem dX12_rest_29 : decode cX12_rest 29 = .ok (.if_icmp .le 6, 3) := dq164 bw_cX12_rest_1 5 rfl rfl rfl
theorem dX12_rest_32 : decode cX12_rest 32 = .ok (.bipush (-5), 2) := dq16 bw_cX12_rest_1 8 rfl rfl rfl
theorem dX12_rest_34 : decode cX12_rest 34 = .ok (.ireturn, 1) := dq172 bw_cX12_rest_1 10 rfl rfl
theorem dX12_rest_35 : decode cX12_rest 35 = .ok (.aload_n 0, 1) := dq42 bw_cX12_rest_1 11 rfl rfl
theorem dX12_rest_36 : decode cX12_rest 36 = .ok (.dup, 1) := dq89 bw_cX12_rest_1 12 rfl rfl
theorem dX12_rest_37 : decode cX12_rest 37 = .ok (.getfield 148, 3) := dq180 bw_cX12_rest_1 13 rfl rfl rfl
theorem dX12_rest_40 : decode cX12_rest 40 = .ok (.iload_n 1, 1) := dq27 bw_cX12_rest_1 16 rfl rfl
theorem dX12_rest_41 : decode cX12_rest 41 = .ok (.iadd, 1) := dq96 bw_cX12_rest_1 17 rfl rfl
theorem dX12_rest_42 : decode cX12_rest 42 = .ok (.putfield 148, 3) := dq181 bw_cX12_rest_1 18 rfl rfl rfl
theorem dX12_rest_45 : decode cX12_rest 45 = .ok (.aload_n 0, 1) := dq42 bw_cX12_rest_1 21 rfl rfl
theorem dX12_rest_46 : decode cX12_rest 46 = .ok (.iconst 0, 1) := dq3 bw_cX12_rest_1 22 rfl rfl
theorem dX12_rest_47 : decode cX12_rest 47 = .ok (.putfield 126, 3) := dq181 bw_cX12_rest_1 23 rfl rfl rfl
theorem bw_cX12_rest_2 : dq_w cX12_rest 48 [0, 126, 42, 180, 0, 148, 172] = true := by decide +kernel
theorem dX12_rest_50 : decode cX12_rest 50 = .ok (.aload_n 0, 1) := dq42 bw_cX12_rest_2 2 rfl rfl
theorem dX12_rest_51 : decode cX12_rest 51 = .ok (.getfield 148, 3) := dq180 bw_cX12_rest_2 3 rfl rfl rfl
theorem dX12_rest_54 : decode cX12_rest 54 = .ok (.ireturn, 1) := dq172 bw_cX12_rest_2 6 rfl rfl
theorem bw_cX12_undo_0 : dq_w cX12_undo 0 [42, 3, 181, 0, 3, 42, 180, 0, 126, 154, 0, 5, 2, 172, 42, 89, 180, 0, 126, 4, 100, 181, 0, 126, 42, 42, 180] = true := by decide +kernel
theorem dX12_undo_0 : decode cX12_undo 0 = .ok (.aload_n 0, 1) := dq42 bw_cX12_undo_0 0 rfl rfl
theorem dX12_undo_1 : decode cX12_undo 1 = .ok (.iconst 0, 1) := dq3 bw_cX12_undo_0 1 rfl rfl
theorem dX12_undo_2 : decode cX12_undo 2 = .ok (.putfield 3, 3) := dq181 bw_cX12_undo_0 2 rfl rfl rfl
theorem dX12_undo_5 : decode cX12_undo 5 = .ok (.aload_n 0, 1) := dq42 bw_cX12_undo_0 5 rfl rfl
theorem dX12_undo_6 : decode cX12_undo 6 = .ok (.getfield 126, 3) := dq180 bw_cX12_undo_0 6 rfl rfl rfl
theorem dX12_undo_9 : decode cX12_undo 9 = .ok (.ifCond .ne 5, 3) := dq154 bw_cX12_undo_0 9 rfl rfl rfl
theorem dX12_undo_12 : decode cX12_undo 12 = .ok (.iconst (-1), 1) := dq2 bw_cX12_undo_0 12 rfl rfl
theorem dX12_undo_13 : decode cX12_undo 13 = .ok (.ireturn, 1) := dq172 bw_cX12_undo_0 13 rfl rfl
theorem dX12_undo_14 : decode cX12_undo 14 = .ok (.aload_n 0, 1) := dq42 bw_cX12_undo_0 14 rfl rfl
theorem dX12_undo_15 : decode cX12_undo 15 = .ok (.dup, 1) := dq89 bw_cX12_undo_0 15 rfl rfl
theorem dX12_undo_16 : decode cX12_undo 16 = .ok (.getfield 126, 3) := dq180 bw_cX12_undo_0 16 rfl rfl rfl
theorem dX12_undo_19 : decode cX12_undo 19 = .ok (.iconst 1, 1) := dq4 bw_cX12_undo_0 19 rfl rfl
theorem dX12_undo_20 : decode cX12_undo 20 = .ok (.isub, 1) := dq100 bw_cX12_undo_0 20 rfl rfl
theorem dX12_undo_21 : decode cX12_undo 21 = .ok (.putfield 126, 3) := dq181 bw_cX12_undo_0 21 rfl rfl rfl
theorem bw_cX12_undo_1 : dq_w cX12_undo 24 [42, 42, 180, 0, 192, 42, 180, 0, 126, 46, 181, 0, 177, 42, 42, 180, 0, 195, 42, 180, 0, 126, 46, 181, 0, 148, 42] = true := by decide +kernel
theorem dX12_undo_24 : decode cX12_undo 24 = .ok (.aload_n 0, 1) := dq42 bw_cX12_undo_1 0 rfl rfl
theorem dX12_undo_25 : decode cX12_undo 25 = .ok (.aload_n 0, 1) := dq42 bw_cX12_undo_1 1 rfl rfl
theorem dX12_undo_26 : decode cX12_undo 26 = .ok (.getfield 192, 3) := dq180 bw_cX12_undo_1 2 rfl rfl rfl
theorem dX12_undo_29 : decode cX12_undo 29 = .ok (.aload_n 0, 1) := dq42 bw_cX12_undo_1 5 rfl rfl
theorem dX12_undo_30 : decode cX12_undo 30 = .ok (.getfield 126, 3) := dq180 bw_cX12_undo_1 6 rfl rfl rfl
theorem dX12_undo_33 : decode cX12_undo 33 = .ok (.iaload, 1) := dq46 bw_cX12_undo_1 9 rfl rfl
theorem dX12_undo_34 : decode cX12_undo 34 = .ok (.putfield 177, 3) := dq181 bw_cX12_undo_1 10 rfl rfl rfl
theorem dX12_undo_37 : decode cX12_undo 37 = .ok (.aload_n 0, 1) := dq42 bw_cX12_undo_1 13 rfl rfl
theorem dX12_undo_38 : decode cX12_undo 38 = .ok (.aload_n 0, 1) := dq42 bw_cX12_undo_1 14 rfl rfl
theorem dX12_undo_39 : decode cX12_undo 39 = .ok (.getfield 195, 3) := dq180 bw_cX12_undo_1 15 rfl rfl rfl
theorem dX12_undo_42 : decode cX12_undo 42 = .ok (.aload_n 0, 1) := dq42 bw_cX12_undo_1 18 rfl rfl
theorem dX12_undo_43 : decode cX12_undo 43 = .ok (.getfield 126, 3) := dq180 bw_cX12_undo_1 19 rfl rfl rfl
theorem dX12_undo_46 : decode cX12_undo 46 = .ok (.iaload, 1) := dq46 bw_cX12_undo_1 22 rfl rfl
theorem dX12_undo_47 : decode cX12_undo 47 = .ok (.putfield 148, 3) := dq181 bw_cX12_undo_1 23 rfl rfl rfl
theorem bw_cX12_undo_2 : dq_w cX12_undo 48 [0, 148, 42, 180, 0, 104, 42, 180, 0, 189, 42, 180, 0, 126, 46, 42, 180, 0, 198, 42, 180, 0, 126, 46, 79, 42, 180] = true := by decide +kernel
theorem dX12_undo_50 : decode cX12_undo 50 = .ok (.aload_n 0, 1) := dq42 bw_cX12_undo_2 2 rfl rfl
theorem dX12_undo_51 : decode cX12_undo 51 = .ok (.getfield 104, 3) := dq180 bw_cX12_undo_2 3 rfl rfl rfl
theorem dX12_undo_54 : decode cX12_undo 54 = .ok (.aload_n 0, 1) := dq42 bw_cX12_undo_2 6 rfl rfl
theorem dX12_undo_55 : decode cX12_undo 55 = .ok (.getfield 189, 3) := dq180 bw_cX12_undo_2 7 rfl rfl rfl
theorem dX12_undo_58 : decode cX12_undo 58 = .ok (.aload_n 0, 1) := dq42 bw_cX12_undo_2 10 rfl rfl
theorem dX12_undo_59 : decode cX12_undo 59 = .ok (.getfield 126, 3) := dq180 bw_cX12_undo_2 11 rfl rfl rfl
theorem dX12_undo_62 : decode cX12_undo 62 = .ok (.iaload, 1) := dq46 bw_cX12_undo_2 14 rfl rfl
theorem dX12_undo_63 : decode cX12_undo 63 = .ok (.aload_n 0, 1) := dq42 bw_cX12_undo_2 15 rfl rfl
theorem dX12_undo_64 : decode cX12_undo 64 = .ok (.getfield 198, 3) := dq180 bw_cX12_undo_2 16 rfl rfl rfl
theorem dX12_undo_67 : decode cX12_undo 67 = .ok (.aload_n 0, 1) := dq42 bw_cX12_undo_2 19 rfl rfl
theorem dX12_undo_68 : decode cX12_undo 68 = .ok (.getfield 126, 3) := dq180 bw_cX12_undo_2 20 rfl rfl rfl
theorem dX12_undo_71 : decode cX12_undo 71 = .ok (.iaload, 1) := dq46 bw_cX12_undo_2 23 rfl rfl
theorem bw_cX12_undo_3 : dq_w cX12_undo 72 [79, 42, 180, 0, 126, 172] = true := by decide +kernel
theorem dX12_undo_72 : decode cX12_undo 72 = .ok (.iastore, 1) := dq79 bw_cX12_undo_3 0 rfl rfl
theorem dX12_undo_73 : decode cX12_undo 73 = .ok (.aload_n 0, 1) := dq42 bw_cX12_undo_3 1 rfl rfl
theorem dX12_undo_74 : decode cX12_undo 74 = .ok (.getfield 126, 3) := dq180 bw_cX12_undo_3 2 rfl rfl rfl
theorem dX12_undo_77 : decode cX12_undo 77 = .ok (.ireturn, 1) := dq172 bw_cX12_undo_3 5 rfl rfl
theorem bw_cX12_go_0 : dq_w cX12_go 0 [42, 3, 181, 0, 3, 42, 27, 182, 0, 157, 154, 0, 5, 3, 172, 42, 27, 181, 0, 177, 42, 3, 181, 0, 148, 42, 3] = true := by decide +kernel
theorem dX12_go_0 : decode cX12_go 0 = .ok (.aload_n 0, 1) := dq42 bw_cX12_go_0 0 rfl rfl
theorem dX12_go_1 : decode cX12_go 1 = .ok (.iconst 0, 1) := dq3 bw_cX12_go_0 1 rfl rfl
theorem dX12_go_2 : decode cX12_go 2 = .ok (.putfield 3, 3) := dq181 bw_cX12_go_0 2 rfl rfl rfl
theorem dX12_go_5 : decode cX12_go 5 = .ok (.aload_n 0, 1) := dq42 bw_cX12_go_0 5 rfl rfl
theorem dX12_go_6 : decode cX12_go 6 = .ok (.iload_n 1, 1) := dq27 bw_cX12_go_0 6 rfl rfl
theorem dX12_go_7 : decode cX12_go 7 = .ok (.invokevirtual 157, 3) := dq182 bw_cX12_go_0 7 rfl rfl rfl
theorem dX12_go_10 : decode cX12_go 10 = .ok (.ifCond .ne 5, 3) := dq154 bw_cX12_go_0 10 rfl rfl rfl
theorem dX12_go_13 : decode cX12_go 13 = .ok (.iconst 0, 1) := dq3 bw_cX12_go_0 13 rfl rfl
theorem dX12_go_14 : decode cX12_go 14 = .ok (.ireturn, 1) := dq172 bw_cX12_go_0 14 rfl rfl
theorem dX12_go_15 : decode cX12_go 15 = .ok (.aload_n 0, 1) := dq42 bw_cX12_go_0 15 rfl rfl
theorem dX12_go_16 : decode cX12_go 16 = .ok (.iload_n 1, 1) := dq27 bw_cX12_go_0 16 rfl rfl
theorem dX12_go_17 : decode cX12_go 17 = .ok (.putfield 177, 3) := dq181 bw_cX12_go_0 17 rfl rfl rfl
theorem dX12_go_20 : decode cX12_go 20 = .ok (.aload_n 0, 1) := dq42 bw_cX12_go_0 20 rfl rfl
theorem dX12_go_21 : decode cX12_go 21 = .ok (.iconst 0, 1) := dq3 bw_cX12_go_0 21 rfl rfl
theorem dX12_go_22 : decode cX12_go 22 = .ok (.putfield 148, 3) := dq181 bw_cX12_go_0 22 rfl rfl rfl
theorem bw_cX12_go_1 : dq_w cX12_go 24 [148, 42, 3, 181, 0, 126, 3, 61, 28, 16, 14, 162, 0, 16, 42, 180, 0, 104, 28, 2, 79, 132, 2, 1, 167, 255, 240] = true := by decide +kernel
theorem dX12_go_25 : decode cX12_go 25 = .ok (.aload_n 0, 1) := dq42 bw_cX12_go_1 1 rfl rfl
theorem dX12_go_26 : decode cX12_go 26 = .ok (.iconst 0, 1) := dq3 bw_cX12_go_1 2 rfl rfl
theorem dX12_go_27 : decode cX12_go 27 = .ok (.putfield 126, 3) := dq181 bw_cX12_go_1 3 rfl rfl rfl
theorem dX12_go_30 : decode cX12_go 30 = .ok (.iconst 0, 1) := dq3 bw_cX12_go_1 6 rfl rfl
theorem dX12_go_31 : decode cX12_go 31 = .ok (.istore_n 2, 1) := dq61 bw_cX12_go_1 7 rfl rfl
theorem dX12_go_32 : decode cX12_go 32 = .ok (.iload_n 2, 1) := dq28 bw_cX12_go_1 8 rfl rfl
theorem dX12_go_33 : decode cX12_go 33 = .ok (.bipush 14, 2) := dq16 bw_cX12_go_1 9 rfl rfl rfl
theorem dX12_go_35 : decode cX12_go 35 = .ok (.if_icmp .ge 16, 3) := dq162 bw_cX12_go_1 11 rfl rfl rfl
theorem dX12_go_38 : decode cX12_go 38 = .ok (.aload_n 0, 1) := dq42 bw_cX12_go_1 14 rfl rfl
theorem dX12_go_39 : decode cX12_go 39 = .ok (.getfield 104, 3) := dq180 bw_cX12_go_1 15 rfl rfl rfl
theorem dX12_go_42 : decode cX12_go 42 = .ok (.iload_n 2, 1) := dq28 bw_cX12_go_1 18 rfl rfl
theorem dX12_go_43 : decode cX12_go 43 = .ok (.iconst (-1), 1) := dq2 bw_cX12_go_1 19 rfl rfl
theorem dX12_go_44 : decode cX12_go 44 = .ok (.iastore, 1) := dq79 bw_cX12_go_1 20 rfl rfl
theorem dX12_go_45 : decode cX12_go 45 = .ok (.iinc 2 1, 3) := dq132 bw_cX12_go_1 21 rfl rfl rfl
theorem bw_cX12_go_2 : dq_w cX12_go 48 [167, 255, 240, 4, 172] = true := by decide +kernel
theorem dX12_go_48 : decode cX12_go 48 = .ok (.goto (-16), 3) := dq167 bw_cX12_go_2 0 rfl rfl rfl
theorem dX12_go_51 : decode cX12_go 51 = .ok (.iconst 1, 1) := dq4 bw_cX12_go_2 3 rfl rfl
theorem dX12_go_52 : decode cX12_go 52 = .ok (.ireturn, 1) := dq172 bw_cX12_go_2 4 rfl rfl
theorem bw_cX12_canNow_0 : dq_w cX12_canNow 0 [3, 60, 3, 61, 28, 42, 180, 0, 21, 162, 0, 27, 27, 42, 28, 182, 0, 204, 154, 0, 9, 4, 28, 120, 167, 0, 4] = true := by decide +kernel
theorem dX12_canNow_0 : decode cX12_canNow 0 = .ok (.iconst 0, 1) := dq3 bw_cX12_canNow_0 0 rfl rfl
theorem dX12_canNow_1 : decode cX12_canNow 1 = .ok (.istore_n 1, 1) := dq60 bw_cX12_canNow_0 1 rfl rfl
theorem dX12_canNow_2 : decode cX12_canNow 2 = .ok (.iconst 0, 1) := dq3 bw_cX12_canNow_0 2 rfl rfl
theorem dX12_canNow_3 : decode cX12_canNow 3 = .ok (.istore_n 2, 1) := dq61 bw_cX12_canNow_0 3 rfl rfl
theorem dX12_canNow_4 : decode cX12_canNow 4 = .ok (.iload_n 2, 1) := dq28 bw_cX12_canNow_0 4 rfl rfl
theorem dX12_canNow_5 : decode cX12_canNow 5 = .ok (.aload_n 0, 1) := dq42 bw_cX12_canNow_0 5 rfl rfl
theorem dX12_canNow_6 : decode cX12_canNow 6 = .ok (.getfield 21, 3) := dq180 bw_cX12_canNow_0 6 rfl rfl rfl
theorem dX12_canNow_9 : decode cX12_canNow 9 = .ok (.if_icmp .ge 27, 3) := dq162 bw_cX12_canNow_0 9 rfl rfl rfl
theorem dX12_canNow_12 : decode cX12_canNow 12 = .ok (.iload_n 1, 1) := dq27 bw_cX12_canNow_0 12 rfl rfl
theorem dX12_canNow_13 : decode cX12_canNow 13 = .ok (.aload_n 0, 1) := dq42 bw_cX12_canNow_0 13 rfl rfl
theorem dX12_canNow_14 : decode cX12_canNow 14 = .ok (.iload_n 2, 1) := dq28 bw_cX12_canNow_0 14 rfl rfl
theorem dX12_canNow_15 : decode cX12_canNow 15 = .ok (.invokevirtual 204, 3) := dq182 bw_cX12_canNow_0 15 rfl rfl rfl
theorem dX12_canNow_18 : decode cX12_canNow 18 = .ok (.ifCond .ne 9, 3) := dq154 bw_cX12_canNow_0 18 rfl rfl rfl
theorem dX12_canNow_21 : decode cX12_canNow 21 = .ok (.iconst 1, 1) := dq4 bw_cX12_canNow_0 21 rfl rfl
theorem dX12_canNow_22 : decode cX12_canNow 22 = .ok (.iload_n 2, 1) := dq28 bw_cX12_canNow_0 22 rfl rfl
theorem dX12_canNow_23 : decode cX12_canNow 23 = .ok (.ishl, 1) := dq120 bw_cX12_canNow_0 23 rfl rfl
theorem bw_cX12_canNow_1 : dq_w cX12_canNow 24 [167, 0, 4, 3, 128, 60, 132, 2, 1, 167, 255, 227, 27, 172] = true := by decide +kernel
theorem dX12_canNow_24 : decode cX12_canNow 24 = .ok (.goto 4, 3) := dq167 bw_cX12_canNow_1 0 rfl rfl rfl
theorem dX12_canNow_27 : decode cX12_canNow 27 = .ok (.iconst 0, 1) := dq3 bw_cX12_canNow_1 3 rfl rfl
theorem dX12_canNow_28 : decode cX12_canNow 28 = .ok (.ior, 1) := dq128 bw_cX12_canNow_1 4 rfl rfl
theorem dX12_canNow_29 : decode cX12_canNow 29 = .ok (.istore_n 1, 1) := dq60 bw_cX12_canNow_1 5 rfl rfl
theorem dX12_canNow_30 : decode cX12_canNow 30 = .ok (.iinc 2 1, 3) := dq132 bw_cX12_canNow_1 6 rfl rfl rfl
theorem dX12_canNow_33 : decode cX12_canNow 33 = .ok (.goto (-29), 3) := dq167 bw_cX12_canNow_1 9 rfl rfl rfl
theorem dX12_canNow_36 : decode cX12_canNow 36 = .ok (.iload_n 1, 1) := dq27 bw_cX12_canNow_1 12 rfl rfl
theorem dX12_canNow_37 : decode cX12_canNow 37 = .ok (.ireturn, 1) := dq172 bw_cX12_canNow_1 13 rfl rfl
theorem bw_cX12_can_0 : dq_w cX12_can 0 [42, 3, 181, 0, 3, 42, 182, 0, 214, 172] = true := by decide +kernel
theorem dX12_can_0 : decode cX12_can 0 = .ok (.aload_n 0, 1) := dq42 bw_cX12_can_0 0 rfl rfl
theorem dX12_can_1 : decode cX12_can 1 = .ok (.iconst 0, 1) := dq3 bw_cX12_can_0 1 rfl rfl
theorem dX12_can_2 : decode cX12_can 2 = .ok (.putfield 3, 3) := dq181 bw_cX12_can_0 2 rfl rfl rfl
theorem dX12_can_5 : decode cX12_can 5 = .ok (.aload_n 0, 1) := dq42 bw_cX12_can_0 5 rfl rfl
theorem dX12_can_6 : decode cX12_can 6 = .ok (.invokevirtual 214, 3) := dq182 bw_cX12_can_0 6 rfl rfl rfl
theorem dX12_can_9 : decode cX12_can 9 = .ok (.ireturn, 1) := dq172 bw_cX12_can_0 9 rfl rfl
theorem bw_cX12_enters_0 : dq_w cX12_enters 0 [42, 180, 0, 7, 42, 180, 0, 11, 27, 79, 42, 89, 180, 0, 11, 4, 96, 181, 0, 11, 177] = true := by decide +kernel
theorem dX12_enters_0 : decode cX12_enters 0 = .ok (.aload_n 0, 1) := dq42 bw_cX12_enters_0 0 rfl rfl
theorem dX12_enters_1 : decode cX12_enters 1 = .ok (.getfield 7, 3) := dq180 bw_cX12_enters_0 1 rfl rfl rfl
theorem dX12_enters_4 : decode cX12_enters 4 = .ok (.aload_n 0, 1) := dq42 bw_cX12_enters_0 4 rfl rfl
theorem dX12_enters_5 : decode cX12_enters 5 = .ok (.getfield 11, 3) := dq180 bw_cX12_enters_0 5 rfl rfl rfl
theorem dX12_enters_8 : decode cX12_enters 8 = .ok (.iload_n 1, 1) := dq27 bw_cX12_enters_0 8 rfl rfl
theorem dX12_enters_9 : decode cX12_enters 9 = .ok (.iastore, 1) := dq79 bw_cX12_enters_0 9 rfl rfl
theorem dX12_enters_10 : decode cX12_enters 10 = .ok (.aload_n 0, 1) := dq42 bw_cX12_enters_0 10 rfl rfl
theorem dX12_enters_11 : decode cX12_enters 11 = .ok (.dup, 1) := dq89 bw_cX12_enters_0 11 rfl rfl
theorem dX12_enters_12 : decode cX12_enters 12 = .ok (.getfield 11, 3) := dq180 bw_cX12_enters_0 12 rfl rfl rfl
theorem dX12_enters_15 : decode cX12_enters 15 = .ok (.iconst 1, 1) := dq4 bw_cX12_enters_0 15 rfl rfl
theorem dX12_enters_16 : decode cX12_enters 16 = .ok (.iadd, 1) := dq96 bw_cX12_enters_0 16 rfl rfl
theorem dX12_enters_17 : decode cX12_enters 17 = .ok (.putfield 11, 3) := dq181 bw_cX12_enters_0 17 rfl rfl rfl
theorem dX12_enters_20 : decode cX12_enters 20 = .ok (.return_, 1) := dq177 bw_cX12_enters_0 20 rfl rfl
theorem bw_cX12_tour_0 : dq_w cX12_tour 0 [42, 3, 181, 0, 3, 42, 16, 30, 182, 0, 107, 61, 27, 133, 9, 10, 184, 0, 17, 154, 0, 6, 16, 156, 172, 42, 42] = true := by decide +kernel
theorem dX12_tour_0 : decode cX12_tour 0 = .ok (.aload_n 0, 1) := dq42 bw_cX12_tour_0 0 rfl rfl
theorem dX12_tour_1 : decode cX12_tour 1 = .ok (.iconst 0, 1) := dq3 bw_cX12_tour_0 1 rfl rfl
theorem dX12_tour_2 : decode cX12_tour 2 = .ok (.putfield 3, 3) := dq181 bw_cX12_tour_0 2 rfl rfl rfl
theorem dX12_tour_5 : decode cX12_tour 5 = .ok (.aload_n 0, 1) := dq42 bw_cX12_tour_0 5 rfl rfl
theorem dX12_tour_6 : decode cX12_tour 6 = .ok (.bipush 30, 2) := dq16 bw_cX12_tour_0 6 rfl rfl rfl
theorem dX12_tour_8 : decode cX12_tour 8 = .ok (.invokevirtual 107, 3) := dq182 bw_cX12_tour_0 8 rfl rfl rfl
theorem dX12_tour_11 : decode cX12_tour 11 = .ok (.istore_n 2, 1) := dq61 bw_cX12_tour_0 11 rfl rfl
theorem dX12_tour_12 : decode cX12_tour 12 = .ok (.iload_n 1, 1) := dq27 bw_cX12_tour_0 12 rfl rfl
theorem dX12_tour_13 : decode cX12_tour 13 = .ok (.i2l, 1) := dq133 bw_cX12_tour_0 13 rfl rfl
theorem dX12_tour_14 : decode cX12_tour 14 = .ok (.lconst 0, 1) := dq9 bw_cX12_tour_0 14 rfl rfl
theorem dX12_tour_15 : decode cX12_tour 15 = .ok (.lconst 1, 1) := dq10 bw_cX12_tour_0 15 rfl rfl
theorem dX12_tour_16 : decode cX12_tour 16 = .ok (.invokestatic 17, 3) := dq184 bw_cX12_tour_0 16 rfl rfl rfl
theorem dX12_tour_19 : decode cX12_tour 19 = .ok (.ifCond .ne 6, 3) := dq154 bw_cX12_tour_0 19 rfl rfl rfl
theorem dX12_tour_22 : decode cX12_tour 22 = .ok (.bipush (-100), 2) := dq16 bw_cX12_tour_0 22 rfl rfl rfl
theorem bw_cX12_tour_1 : dq_w cX12_tour 24 [172, 42, 42, 180, 0, 14, 181, 0, 58, 42, 2, 182, 0, 77, 62, 29, 54, 4, 3, 54, 5, 3, 54, 6, 3, 54, 7] = true := by decide +kernel
theorem dX12_tour_24 : decode cX12_tour 24 = .ok (.ireturn, 1) := dq172 bw_cX12_tour_1 0 rfl rfl
theorem dX12_tour_25 : decode cX12_tour 25 = .ok (.aload_n 0, 1) := dq42 bw_cX12_tour_1 1 rfl rfl
theorem dX12_tour_26 : decode cX12_tour 26 = .ok (.aload_n 0, 1) := dq42 bw_cX12_tour_1 2 rfl rfl
theorem dX12_tour_27 : decode cX12_tour 27 = .ok (.getfield 14, 3) := dq180 bw_cX12_tour_1 3 rfl rfl rfl
theorem dX12_tour_30 : decode cX12_tour 30 = .ok (.putfield 58, 3) := dq181 bw_cX12_tour_1 6 rfl rfl rfl
theorem dX12_tour_33 : decode cX12_tour 33 = .ok (.aload_n 0, 1) := dq42 bw_cX12_tour_1 9 rfl rfl
theorem dX12_tour_34 : decode cX12_tour 34 = .ok (.iconst (-1), 1) := dq2 bw_cX12_tour_1 10 rfl rfl
theorem dX12_tour_35 : decode cX12_tour 35 = .ok (.invokevirtual 77, 3) := dq182 bw_cX12_tour_1 11 rfl rfl rfl
theorem dX12_tour_38 : decode cX12_tour 38 = .ok (.istore_n 3, 1) := dq62 bw_cX12_tour_1 14 rfl rfl
theorem dX12_tour_39 : decode cX12_tour 39 = .ok (.iload_n 3, 1) := dq29 bw_cX12_tour_1 15 rfl rfl
theorem dX12_tour_40 : decode cX12_tour 40 = .ok (.istore 4, 2) := dq54 bw_cX12_tour_1 16 rfl rfl
theorem dX12_tour_42 : decode cX12_tour 42 = .ok (.iconst 0, 1) := dq3 bw_cX12_tour_1 18 rfl rfl
theorem dX12_tour_43 : decode cX12_tour 43 = .ok (.istore 5, 2) := dq54 bw_cX12_tour_1 19 rfl rfl
theorem dX12_tour_45 : decode cX12_tour 45 = .ok (.iconst 0, 1) := dq3 bw_cX12_tour_1 21 rfl rfl
theorem dX12_tour_46 : decode cX12_tour 46 = .ok (.istore 6, 2) := dq54 bw_cX12_tour_1 22 rfl rfl
theorem bw_cX12_tour_2 : dq_w cX12_tour 48 [3, 54, 7, 29, 155, 0, 7, 4, 167, 0, 4, 3, 54, 8, 21, 8, 153, 0, 117, 42, 180, 0, 30, 42, 180, 0, 39] = true := by decide +kernel
theorem dX12_tour_48 : decode cX12_tour 48 = .ok (.iconst 0, 1) := dq3 bw_cX12_tour_2 0 rfl rfl
theorem dX12_tour_49 : decode cX12_tour 49 = .ok (.istore 7, 2) := dq54 bw_cX12_tour_2 1 rfl rfl
theorem dX12_tour_51 : decode cX12_tour 51 = .ok (.iload_n 3, 1) := dq29 bw_cX12_tour_2 3 rfl rfl
theorem dX12_tour_52 : decode cX12_tour 52 = .ok (.ifCond .lt 7, 3) := dq155 bw_cX12_tour_2 4 rfl rfl rfl
theorem dX12_tour_55 : decode cX12_tour 55 = .ok (.iconst 1, 1) := dq4 bw_cX12_tour_2 7 rfl rfl
theorem dX12_tour_56 : decode cX12_tour 56 = .ok (.goto 4, 3) := dq167 bw_cX12_tour_2 8 rfl rfl rfl
theorem dX12_tour_59 : decode cX12_tour 59 = .ok (.iconst 0, 1) := dq3 bw_cX12_tour_2 11 rfl rfl
theorem dX12_tour_60 : decode cX12_tour 60 = .ok (.istore 8, 2) := dq54 bw_cX12_tour_2 12 rfl rfl
theorem dX12_tour_62 : decode cX12_tour 62 = .ok (.iload 8, 2) := dq21 bw_cX12_tour_2 14 rfl rfl
theorem dX12_tour_64 : decode cX12_tour 64 = .ok (.ifCond .eq 117, 3) := dq153 bw_cX12_tour_2 16 rfl rfl rfl
theorem dX12_tour_67 : decode cX12_tour 67 = .ok (.aload_n 0, 1) := dq42 bw_cX12_tour_2 19 rfl rfl
theorem dX12_tour_68 : decode cX12_tour 68 = .ok (.getfield 30, 3) := dq180 bw_cX12_tour_2 20 rfl rfl rfl
theorem dX12_tour_71 : decode cX12_tour 71 = .ok (.aload_n 0, 1) := dq42 bw_cX12_tour_2 23 rfl rfl
theorem bw_cX12_tour_3 : dq_w cX12_tour 72 [180, 0, 39, 162, 0, 106, 42, 180, 0, 27, 42, 180, 0, 30, 46, 16, 65, 100, 54, 9, 42, 21, 9, 182, 0, 135, 153] = true := by decide +kernel
theorem dX12_tour_72 : decode cX12_tour 72 = .ok (.getfield 39, 3) := dq180 bw_cX12_tour_3 0 rfl rfl rfl
theorem dX12_tour_75 : decode cX12_tour 75 = .ok (.if_icmp .ge 106, 3) := dq162 bw_cX12_tour_3 3 rfl rfl rfl
theorem dX12_tour_78 : decode cX12_tour 78 = .ok (.aload_n 0, 1) := dq42 bw_cX12_tour_3 6 rfl rfl
theorem dX12_tour_79 : decode cX12_tour 79 = .ok (.getfield 27, 3) := dq180 bw_cX12_tour_3 7 rfl rfl rfl
theorem dX12_tour_82 : decode cX12_tour 82 = .ok (.aload_n 0, 1) := dq42 bw_cX12_tour_3 10 rfl rfl
theorem dX12_tour_83 : decode cX12_tour 83 = .ok (.getfield 30, 3) := dq180 bw_cX12_tour_3 11 rfl rfl rfl
theorem dX12_tour_86 : decode cX12_tour 86 = .ok (.iaload, 1) := dq46 bw_cX12_tour_3 14 rfl rfl
theorem dX12_tour_87 : decode cX12_tour 87 = .ok (.bipush 65, 2) := dq16 bw_cX12_tour_3 15 rfl rfl rfl
theorem dX12_tour_89 : decode cX12_tour 89 = .ok (.isub, 1) := dq100 bw_cX12_tour_3 17 rfl rfl
theorem dX12_tour_90 : decode cX12_tour 90 = .ok (.istore 9, 2) := dq54 bw_cX12_tour_3 18 rfl rfl
theorem dX12_tour_92 : decode cX12_tour 92 = .ok (.aload_n 0, 1) := dq42 bw_cX12_tour_3 20 rfl rfl
theorem dX12_tour_93 : decode cX12_tour 93 = .ok (.iload 9, 2) := dq21 bw_cX12_tour_3 21 rfl rfl
theorem dX12_tour_95 : decode cX12_tour 95 = .ok (.invokevirtual 135, 3) := dq182 bw_cX12_tour_3 23 rfl rfl rfl
theorem bw_cX12_tour_4 : dq_w cX12_tour 96 [0, 135, 153, 0, 18, 42, 21, 9, 21, 4, 182, 0, 180, 153, 0, 7, 4, 167, 0, 4, 3, 54, 8, 21, 8, 153, 0] = true := by decide +kernel
theorem dX12_tour_98 : decode cX12_tour 98 = .ok (.ifCond .eq 18, 3) := dq153 bw_cX12_tour_4 2 rfl rfl rfl
theorem dX12_tour_101 : decode cX12_tour 101 = .ok (.aload_n 0, 1) := dq42 bw_cX12_tour_4 5 rfl rfl
theorem dX12_tour_102 : decode cX12_tour 102 = .ok (.iload 9, 2) := dq21 bw_cX12_tour_4 6 rfl rfl
theorem dX12_tour_104 : decode cX12_tour 104 = .ok (.iload 4, 2) := dq21 bw_cX12_tour_4 8 rfl rfl
theorem dX12_tour_106 : decode cX12_tour 106 = .ok (.invokevirtual 180, 3) := dq182 bw_cX12_tour_4 10 rfl rfl rfl
theorem dX12_tour_109 : decode cX12_tour 109 = .ok (.ifCond .eq 7, 3) := dq153 bw_cX12_tour_4 13 rfl rfl rfl
theorem dX12_tour_112 : decode cX12_tour 112 = .ok (.iconst 1, 1) := dq4 bw_cX12_tour_4 16 rfl rfl
theorem dX12_tour_113 : decode cX12_tour 113 = .ok (.goto 4, 3) := dq167 bw_cX12_tour_4 17 rfl rfl rfl
theorem dX12_tour_116 : decode cX12_tour 116 = .ok (.iconst 0, 1) := dq3 bw_cX12_tour_4 20 rfl rfl
theorem dX12_tour_117 : decode cX12_tour 117 = .ok (.istore 8, 2) := dq54 bw_cX12_tour_4 21 rfl rfl
theorem dX12_tour_119 : decode cX12_tour 119 = .ok (.iload 8, 2) := dq21 bw_cX12_tour_4 23 rfl rfl
theorem bw_cX12_tour_5 : dq_w cX12_tour 120 [8, 153, 0, 57, 42, 180, 0, 217, 21, 5, 21, 9, 79, 132, 5, 1, 21, 6, 42, 21, 9, 21, 4, 182, 0, 186, 96] = true := by decide +kernel
theorem dX12_tour_121 : decode cX12_tour 121 = .ok (.ifCond .eq 57, 3) := dq153 bw_cX12_tour_5 1 rfl rfl rfl
theorem dX12_tour_124 : decode cX12_tour 124 = .ok (.aload_n 0, 1) := dq42 bw_cX12_tour_5 4 rfl rfl
theorem dX12_tour_125 : decode cX12_tour 125 = .ok (.getfield 217, 3) := dq180 bw_cX12_tour_5 5 rfl rfl rfl
theorem dX12_tour_128 : decode cX12_tour 128 = .ok (.iload 5, 2) := dq21 bw_cX12_tour_5 8 rfl rfl
theorem dX12_tour_130 : decode cX12_tour 130 = .ok (.iload 9, 2) := dq21 bw_cX12_tour_5 10 rfl rfl
theorem dX12_tour_132 : decode cX12_tour 132 = .ok (.iastore, 1) := dq79 bw_cX12_tour_5 12 rfl rfl
theorem dX12_tour_133 : decode cX12_tour 133 = .ok (.iinc 5 1, 3) := dq132 bw_cX12_tour_5 13 rfl rfl rfl
theorem dX12_tour_136 : decode cX12_tour 136 = .ok (.iload 6, 2) := dq21 bw_cX12_tour_5 16 rfl rfl
theorem dX12_tour_138 : decode cX12_tour 138 = .ok (.aload_n 0, 1) := dq42 bw_cX12_tour_5 18 rfl rfl
theorem dX12_tour_139 : decode cX12_tour 139 = .ok (.iload 9, 2) := dq21 bw_cX12_tour_5 19 rfl rfl
theorem dX12_tour_141 : decode cX12_tour 141 = .ok (.iload 4, 2) := dq21 bw_cX12_tour_5 21 rfl rfl
theorem dX12_tour_143 : decode cX12_tour 143 = .ok (.invokevirtual 186, 3) := dq182 bw_cX12_tour_5 23 rfl rfl rfl
theorem bw_cX12_tour_6 : dq_w cX12_tour 144 [0, 186, 96, 54, 6, 21, 7, 4, 21, 9, 120, 128, 54, 7, 42, 21, 9, 21, 4, 182, 0, 201, 54, 4, 42, 89, 180] = true := by decide +kernel
theorem dX12_tour_146 : decode cX12_tour 146 = .ok (.iadd, 1) := dq96 bw_cX12_tour_6 2 rfl rfl
theorem dX12_tour_147 : decode cX12_tour 147 = .ok (.istore 6, 2) := dq54 bw_cX12_tour_6 3 rfl rfl
theorem dX12_tour_149 : decode cX12_tour 149 = .ok (.iload 7, 2) := dq21 bw_cX12_tour_6 5 rfl rfl
theorem dX12_tour_151 : decode cX12_tour 151 = .ok (.iconst 1, 1) := dq4 bw_cX12_tour_6 7 rfl rfl
theorem dX12_tour_152 : decode cX12_tour 152 = .ok (.iload 9, 2) := dq21 bw_cX12_tour_6 8 rfl rfl
theorem dX12_tour_154 : decode cX12_tour 154 = .ok (.ishl, 1) := dq120 bw_cX12_tour_6 10 rfl rfl
theorem dX12_tour_155 : decode cX12_tour 155 = .ok (.ior, 1) := dq128 bw_cX12_tour_6 11 rfl rfl
theorem dX12_tour_156 : decode cX12_tour 156 = .ok (.istore 7, 2) := dq54 bw_cX12_tour_6 12 rfl rfl
theorem dX12_tour_158 : decode cX12_tour 158 = .ok (.aload_n 0, 1) := dq42 bw_cX12_tour_6 14 rfl rfl
theorem dX12_tour_159 : decode cX12_tour 159 = .ok (.iload 9, 2) := dq21 bw_cX12_tour_6 15 rfl rfl
theorem dX12_tour_161 : decode cX12_tour 161 = .ok (.iload 4, 2) := dq21 bw_cX12_tour_6 17 rfl rfl
theorem dX12_tour_163 : decode cX12_tour 163 = .ok (.invokevirtual 201, 3) := dq182 bw_cX12_tour_6 19 rfl rfl rfl
theorem dX12_tour_166 : decode cX12_tour 166 = .ok (.istore 4, 2) := dq54 bw_cX12_tour_6 22 rfl rfl
theorem bw_cX12_tour_7 : dq_w cX12_tour 168 [42, 89, 180, 0, 30, 4, 96, 181, 0, 30, 167, 255, 140, 42, 28, 16, 30, 21, 8, 182, 0, 119, 54, 9, 21, 9, 156] = true := by decide +kernel
theorem dX12_tour_168 : decode cX12_tour 168 = .ok (.aload_n 0, 1) := dq42 bw_cX12_tour_7 0 rfl rfl
theorem dX12_tour_169 : decode cX12_tour 169 = .ok (.dup, 1) := dq89 bw_cX12_tour_7 1 rfl rfl
theorem dX12_tour_170 : decode cX12_tour 170 = .ok (.getfield 30, 3) := dq180 bw_cX12_tour_7 2 rfl rfl rfl
theorem dX12_tour_173 : decode cX12_tour 173 = .ok (.iconst 1, 1) := dq4 bw_cX12_tour_7 5 rfl rfl
theorem dX12_tour_174 : decode cX12_tour 174 = .ok (.iadd, 1) := dq96 bw_cX12_tour_7 6 rfl rfl
theorem dX12_tour_175 : decode cX12_tour 175 = .ok (.putfield 30, 3) := dq181 bw_cX12_tour_7 7 rfl rfl rfl
theorem dX12_tour_178 : decode cX12_tour 178 = .ok (.goto (-116), 3) := dq167 bw_cX12_tour_7 10 rfl rfl rfl
theorem dX12_tour_181 : decode cX12_tour 181 = .ok (.aload_n 0, 1) := dq42 bw_cX12_tour_7 13 rfl rfl
theorem dX12_tour_182 : decode cX12_tour 182 = .ok (.iload_n 2, 1) := dq28 bw_cX12_tour_7 14 rfl rfl
theorem dX12_tour_183 : decode cX12_tour 183 = .ok (.bipush 30, 2) := dq16 bw_cX12_tour_7 15 rfl rfl rfl
theorem dX12_tour_185 : decode cX12_tour 185 = .ok (.iload 8, 2) := dq21 bw_cX12_tour_7 17 rfl rfl
theorem dX12_tour_187 : decode cX12_tour 187 = .ok (.invokevirtual 119, 3) := dq182 bw_cX12_tour_7 19 rfl rfl rfl
theorem dX12_tour_190 : decode cX12_tour 190 = .ok (.istore 9, 2) := dq54 bw_cX12_tour_7 22 rfl rfl
theorem bw_cX12_tour_8 : dq_w cX12_tour 192 [21, 9, 156, 0, 6, 21, 9, 172, 42, 180, 0, 220, 27, 29, 79, 42, 180, 0, 223, 27, 21, 5, 79, 3, 54, 10, 21] = true := by decide +kernel
theorem dX12_tour_192 : decode cX12_tour 192 = .ok (.iload 9, 2) := dq21 bw_cX12_tour_8 0 rfl rfl
theorem dX12_tour_194 : decode cX12_tour 194 = .ok (.ifCond .ge 6, 3) := dq156 bw_cX12_tour_8 2 rfl rfl rfl
theorem dX12_tour_197 : decode cX12_tour 197 = .ok (.iload 9, 2) := dq21 bw_cX12_tour_8 5 rfl rfl
theorem dX12_tour_199 : decode cX12_tour 199 = .ok (.ireturn, 1) := dq172 bw_cX12_tour_8 7 rfl rfl
theorem dX12_tour_200 : decode cX12_tour 200 = .ok (.aload_n 0, 1) := dq42 bw_cX12_tour_8 8 rfl rfl
theorem dX12_tour_201 : decode cX12_tour 201 = .ok (.getfield 220, 3) := dq180 bw_cX12_tour_8 9 rfl rfl rfl
theorem dX12_tour_204 : decode cX12_tour 204 = .ok (.iload_n 1, 1) := dq27 bw_cX12_tour_8 12 rfl rfl
theorem dX12_tour_205 : decode cX12_tour 205 = .ok (.iload_n 3, 1) := dq29 bw_cX12_tour_8 13 rfl rfl
theorem dX12_tour_206 : decode cX12_tour 206 = .ok (.iastore, 1) := dq79 bw_cX12_tour_8 14 rfl rfl
theorem dX12_tour_207 : decode cX12_tour 207 = .ok (.aload_n 0, 1) := dq42 bw_cX12_tour_8 15 rfl rfl
theorem dX12_tour_208 : decode cX12_tour 208 = .ok (.getfield 223, 3) := dq180 bw_cX12_tour_8 16 rfl rfl rfl
theorem dX12_tour_211 : decode cX12_tour 211 = .ok (.iload_n 1, 1) := dq27 bw_cX12_tour_8 19 rfl rfl
theorem dX12_tour_212 : decode cX12_tour 212 = .ok (.iload 5, 2) := dq21 bw_cX12_tour_8 20 rfl rfl
theorem dX12_tour_214 : decode cX12_tour 214 = .ok (.iastore, 1) := dq79 bw_cX12_tour_8 22 rfl rfl
theorem dX12_tour_215 : decode cX12_tour 215 = .ok (.iconst 0, 1) := dq3 bw_cX12_tour_8 23 rfl rfl
theorem bw_cX12_tour_9 : dq_w cX12_tour 216 [54, 10, 21, 10, 21, 5, 162, 0, 28, 42, 180, 0, 226, 16, 30, 27, 104, 21, 10, 96, 42, 180, 0, 217, 21, 10, 46] = true := by decide +kernel
theorem dX12_tour_216 : decode cX12_tour 216 = .ok (.istore 10, 2) := dq54 bw_cX12_tour_9 0 rfl rfl
theorem dX12_tour_218 : decode cX12_tour 218 = .ok (.iload 10, 2) := dq21 bw_cX12_tour_9 2 rfl rfl
theorem dX12_tour_220 : decode cX12_tour 220 = .ok (.iload 5, 2) := dq21 bw_cX12_tour_9 4 rfl rfl
theorem dX12_tour_222 : decode cX12_tour 222 = .ok (.if_icmp .ge 28, 3) := dq162 bw_cX12_tour_9 6 rfl rfl rfl
theorem dX12_tour_225 : decode cX12_tour 225 = .ok (.aload_n 0, 1) := dq42 bw_cX12_tour_9 9 rfl rfl
theorem dX12_tour_226 : decode cX12_tour 226 = .ok (.getfield 226, 3) := dq180 bw_cX12_tour_9 10 rfl rfl rfl
theorem dX12_tour_229 : decode cX12_tour 229 = .ok (.bipush 30, 2) := dq16 bw_cX12_tour_9 13 rfl rfl rfl
theorem dX12_tour_231 : decode cX12_tour 231 = .ok (.iload_n 1, 1) := dq27 bw_cX12_tour_9 15 rfl rfl
theorem dX12_tour_232 : decode cX12_tour 232 = .ok (.imul, 1) := dq104 bw_cX12_tour_9 16 rfl rfl
theorem dX12_tour_233 : decode cX12_tour 233 = .ok (.iload 10, 2) := dq21 bw_cX12_tour_9 17 rfl rfl
theorem dX12_tour_235 : decode cX12_tour 235 = .ok (.iadd, 1) := dq96 bw_cX12_tour_9 19 rfl rfl
theorem dX12_tour_236 : decode cX12_tour 236 = .ok (.aload_n 0, 1) := dq42 bw_cX12_tour_9 20 rfl rfl
theorem dX12_tour_237 : decode cX12_tour 237 = .ok (.getfield 217, 3) := dq180 bw_cX12_tour_9 21 rfl rfl rfl
theorem bw_cX12_tour_10 : dq_w cX12_tour 240 [21, 10, 46, 79, 132, 10, 1, 167, 255, 227, 42, 3, 181, 0, 11, 42, 21, 4, 182, 0, 229, 42, 21, 7, 182, 0, 229] = true := by decide +kernel
theorem dX12_tour_240 : decode cX12_tour 240 = .ok (.iload 10, 2) := dq21 bw_cX12_tour_10 0 rfl rfl
theorem dX12_tour_242 : decode cX12_tour 242 = .ok (.iaload, 1) := dq46 bw_cX12_tour_10 2 rfl rfl
theorem dX12_tour_243 : decode cX12_tour 243 = .ok (.iastore, 1) := dq79 bw_cX12_tour_10 3 rfl rfl
theorem dX12_tour_244 : decode cX12_tour 244 = .ok (.iinc 10 1, 3) := dq132 bw_cX12_tour_10 4 rfl rfl rfl
theorem dX12_tour_247 : decode cX12_tour 247 = .ok (.goto (-29), 3) := dq167 bw_cX12_tour_10 7 rfl rfl rfl
theorem dX12_tour_250 : decode cX12_tour 250 = .ok (.aload_n 0, 1) := dq42 bw_cX12_tour_10 10 rfl rfl
theorem dX12_tour_251 : decode cX12_tour 251 = .ok (.iconst 0, 1) := dq3 bw_cX12_tour_10 11 rfl rfl
theorem dX12_tour_252 : decode cX12_tour 252 = .ok (.putfield 11, 3) := dq181 bw_cX12_tour_10 12 rfl rfl rfl
theorem dX12_tour_255 : decode cX12_tour 255 = .ok (.aload_n 0, 1) := dq42 bw_cX12_tour_10 15 rfl rfl
theorem dX12_tour_256 : decode cX12_tour 256 = .ok (.iload 4, 2) := dq21 bw_cX12_tour_10 16 rfl rfl
theorem dX12_tour_258 : decode cX12_tour 258 = .ok (.invokevirtual 229, 3) := dq182 bw_cX12_tour_10 18 rfl rfl rfl
theorem dX12_tour_261 : decode cX12_tour 261 = .ok (.aload_n 0, 1) := dq42 bw_cX12_tour_10 21 rfl rfl
theorem dX12_tour_262 : decode cX12_tour 262 = .ok (.iload 7, 2) := dq21 bw_cX12_tour_10 22 rfl rfl
theorem bw_cX12_tour_11 : dq_w cX12_tour 264 [182, 0, 229, 21, 6, 172] = true := by decide +kernel
theorem dX12_tour_264 : decode cX12_tour 264 = .ok (.invokevirtual 229, 3) := dq182 bw_cX12_tour_11 0 rfl rfl rfl
theorem dX12_tour_267 : decode cX12_tour 267 = .ok (.iload 6, 2) := dq21 bw_cX12_tour_11 3 rfl rfl
theorem dX12_tour_269 : decode cX12_tour 269 = .ok (.ireturn, 1) := dq172 bw_cX12_tour_11 5 rfl rfl
theorem bw_cX12_putsWalker_0 : dq_w cX12_putsWalker 0 [42, 42, 180, 0, 177, 181, 0, 232, 42, 42, 180, 0, 148, 181, 0, 235, 3, 60, 27, 16, 14, 162, 0, 21, 42, 180, 0] = true := by decide +kernel
theorem dX12_putsWalker_0 : decode cX12_putsWalker 0 = .ok (.aload_n 0, 1) := dq42 bw_cX12_putsWalker_0 0 rfl rfl
theorem dX12_putsWalker_1 : decode cX12_putsWalker 1 = .ok (.aload_n 0, 1) := dq42 bw_cX12_putsWalker_0 1 rfl rfl
theorem dX12_putsWalker_2 : decode cX12_putsWalker 2 = .ok (.getfield 177, 3) := dq180 bw_cX12_putsWalker_0 2 rfl rfl rfl
theorem dX12_putsWalker_5 : decode cX12_putsWalker 5 = .ok (.putfield 232, 3) := dq181 bw_cX12_putsWalker_0 5 rfl rfl rfl
theorem dX12_putsWalker_8 : decode cX12_putsWalker 8 = .ok (.aload_n 0, 1) := dq42 bw_cX12_putsWalker_0 8 rfl rfl
theorem dX12_putsWalker_9 : decode cX12_putsWalker 9 = .ok (.aload_n 0, 1) := dq42 bw_cX12_putsWalker_0 9 rfl rfl
theorem dX12_putsWalker_10 : decode cX12_putsWalker 10 = .ok (.getfield 148, 3) := dq180 bw_cX12_putsWalker_0 10 rfl rfl rfl
theorem dX12_putsWalker_13 : decode cX12_putsWalker 13 = .ok (.putfield 235, 3) := dq181 bw_cX12_putsWalker_0 13 rfl rfl rfl
theorem dX12_putsWalker_16 : decode cX12_putsWalker 16 = .ok (.iconst 0, 1) := dq3 bw_cX12_putsWalker_0 16 rfl rfl
theorem dX12_putsWalker_17 : decode cX12_putsWalker 17 = .ok (.istore_n 1, 1) := dq60 bw_cX12_putsWalker_0 17 rfl rfl
theorem dX12_putsWalker_18 : decode cX12_putsWalker 18 = .ok (.iload_n 1, 1) := dq27 bw_cX12_putsWalker_0 18 rfl rfl
theorem dX12_putsWalker_19 : decode cX12_putsWalker 19 = .ok (.bipush 14, 2) := dq16 bw_cX12_putsWalker_0 19 rfl rfl rfl
theorem dX12_putsWalker_21 : decode cX12_putsWalker 21 = .ok (.if_icmp .ge 21, 3) := dq162 bw_cX12_putsWalker_0 21 rfl rfl rfl
theorem bw_cX12_putsWalker_1 : dq_w cX12_putsWalker 24 [42, 180, 0, 238, 27, 42, 180, 0, 104, 27, 46, 79, 132, 1, 1, 167, 255, 235, 177] = true := by decide +kernel
theorem dX12_putsWalker_24 : decode cX12_putsWalker 24 = .ok (.aload_n 0, 1) := dq42 bw_cX12_putsWalker_1 0 rfl rfl
theorem dX12_putsWalker_25 : decode cX12_putsWalker 25 = .ok (.getfield 238, 3) := dq180 bw_cX12_putsWalker_1 1 rfl rfl rfl
theorem dX12_putsWalker_28 : decode cX12_putsWalker 28 = .ok (.iload_n 1, 1) := dq27 bw_cX12_putsWalker_1 4 rfl rfl
theorem dX12_putsWalker_29 : decode cX12_putsWalker 29 = .ok (.aload_n 0, 1) := dq42 bw_cX12_putsWalker_1 5 rfl rfl
theorem dX12_putsWalker_30 : decode cX12_putsWalker 30 = .ok (.getfield 104, 3) := dq180 bw_cX12_putsWalker_1 6 rfl rfl rfl
theorem dX12_putsWalker_33 : decode cX12_putsWalker 33 = .ok (.iload_n 1, 1) := dq27 bw_cX12_putsWalker_1 9 rfl rfl
theorem dX12_putsWalker_34 : decode cX12_putsWalker 34 = .ok (.iaload, 1) := dq46 bw_cX12_putsWalker_1 10 rfl rfl
theorem dX12_putsWalker_35 : decode cX12_putsWalker 35 = .ok (.iastore, 1) := dq79 bw_cX12_putsWalker_1 11 rfl rfl
theorem dX12_putsWalker_36 : decode cX12_putsWalker 36 = .ok (.iinc 1 1, 3) := dq132 bw_cX12_putsWalker_1 12 rfl rfl rfl
theorem dX12_putsWalker_39 : decode cX12_putsWalker 39 = .ok (.goto (-21), 3) := dq167 bw_cX12_putsWalker_1 15 rfl rfl rfl
theorem dX12_putsWalker_42 : decode cX12_putsWalker 42 = .ok (.return_, 1) := dq177 bw_cX12_putsWalker_1 18 rfl rfl
theorem bw_cX12_putsBack_0 : dq_w cX12_putsBack 0 [42, 42, 180, 0, 232, 181, 0, 177, 42, 42, 180, 0, 235, 181, 0, 148, 3, 60, 27, 16, 14, 162, 0, 21, 42, 180, 0] = true := by decide +kernel
theorem dX12_putsBack_0 : decode cX12_putsBack 0 = .ok (.aload_n 0, 1) := dq42 bw_cX12_putsBack_0 0 rfl rfl
theorem dX12_putsBack_1 : decode cX12_putsBack 1 = .ok (.aload_n 0, 1) := dq42 bw_cX12_putsBack_0 1 rfl rfl
theorem dX12_putsBack_2 : decode cX12_putsBack 2 = .ok (.getfield 232, 3) := dq180 bw_cX12_putsBack_0 2 rfl rfl rfl
theorem dX12_putsBack_5 : decode cX12_putsBack 5 = .ok (.putfield 177, 3) := dq181 bw_cX12_putsBack_0 5 rfl rfl rfl
theorem dX12_putsBack_8 : decode cX12_putsBack 8 = .ok (.aload_n 0, 1) := dq42 bw_cX12_putsBack_0 8 rfl rfl
theorem dX12_putsBack_9 : decode cX12_putsBack 9 = .ok (.aload_n 0, 1) := dq42 bw_cX12_putsBack_0 9 rfl rfl
theorem dX12_putsBack_10 : decode cX12_putsBack 10 = .ok (.getfield 235, 3) := dq180 bw_cX12_putsBack_0 10 rfl rfl rfl
theorem dX12_putsBack_13 : decode cX12_putsBack 13 = .ok (.putfield 148, 3) := dq181 bw_cX12_putsBack_0 13 rfl rfl rfl
theorem dX12_putsBack_16 : decode cX12_putsBack 16 = .ok (.iconst 0, 1) := dq3 bw_cX12_putsBack_0 16 rfl rfl
theorem dX12_putsBack_17 : decode cX12_putsBack 17 = .ok (.istore_n 1, 1) := dq60 bw_cX12_putsBack_0 17 rfl rfl
theorem dX12_putsBack_18 : decode cX12_putsBack 18 = .ok (.iload_n 1, 1) := dq27 bw_cX12_putsBack_0 18 rfl rfl
theorem dX12_putsBack_19 : decode cX12_putsBack 19 = .ok (.bipush 14, 2) := dq16 bw_cX12_putsBack_0 19 rfl rfl rfl
theorem dX12_putsBack_21 : decode cX12_putsBack 21 = .ok (.if_icmp .ge 21, 3) := dq162 bw_cX12_putsBack_0 21 rfl rfl rfl
theorem bw_cX12_putsBack_1 : dq_w cX12_putsBack 24 [42, 180, 0, 104, 27, 42, 180, 0, 238, 27, 46, 79, 132, 1, 1, 167, 255, 235, 177] = true := by decide +kernel
theorem dX12_putsBack_24 : decode cX12_putsBack 24 = .ok (.aload_n 0, 1) := dq42 bw_cX12_putsBack_1 0 rfl rfl
theorem dX12_putsBack_25 : decode cX12_putsBack 25 = .ok (.getfield 104, 3) := dq180 bw_cX12_putsBack_1 1 rfl rfl rfl
theorem dX12_putsBack_28 : decode cX12_putsBack 28 = .ok (.iload_n 1, 1) := dq27 bw_cX12_putsBack_1 4 rfl rfl
theorem dX12_putsBack_29 : decode cX12_putsBack 29 = .ok (.aload_n 0, 1) := dq42 bw_cX12_putsBack_1 5 rfl rfl
theorem dX12_putsBack_30 : decode cX12_putsBack 30 = .ok (.getfield 238, 3) := dq180 bw_cX12_putsBack_1 6 rfl rfl rfl
theorem dX12_putsBack_33 : decode cX12_putsBack 33 = .ok (.iload_n 1, 1) := dq27 bw_cX12_putsBack_1 9 rfl rfl
theorem dX12_putsBack_34 : decode cX12_putsBack 34 = .ok (.iaload, 1) := dq46 bw_cX12_putsBack_1 10 rfl rfl
theorem dX12_putsBack_35 : decode cX12_putsBack 35 = .ok (.iastore, 1) := dq79 bw_cX12_putsBack_1 11 rfl rfl
theorem dX12_putsBack_36 : decode cX12_putsBack 36 = .ok (.iinc 1 1, 3) := dq132 bw_cX12_putsBack_1 12 rfl rfl rfl
theorem dX12_putsBack_39 : decode cX12_putsBack 39 = .ok (.goto (-21), 3) := dq167 bw_cX12_putsBack_1 15 rfl rfl rfl
theorem dX12_putsBack_42 : decode cX12_putsBack 42 = .ok (.return_, 1) := dq177 bw_cX12_putsBack_1 18 rfl rfl
theorem bw_cX12_look_0 : dq_w cX12_look 0 [42, 3, 181, 0, 3, 27, 133, 9, 10, 184, 0, 17, 154, 0, 5, 2, 172, 42, 180, 0, 220, 27, 46, 156, 0, 6, 16] = true := by decide +kernel
theorem dX12_look_0 : decode cX12_look 0 = .ok (.aload_n 0, 1) := dq42 bw_cX12_look_0 0 rfl rfl
theorem dX12_look_1 : decode cX12_look 1 = .ok (.iconst 0, 1) := dq3 bw_cX12_look_0 1 rfl rfl
theorem dX12_look_2 : decode cX12_look 2 = .ok (.putfield 3, 3) := dq181 bw_cX12_look_0 2 rfl rfl rfl
theorem dX12_look_5 : decode cX12_look 5 = .ok (.iload_n 1, 1) := dq27 bw_cX12_look_0 5 rfl rfl
theorem dX12_look_6 : decode cX12_look 6 = .ok (.i2l, 1) := dq133 bw_cX12_look_0 6 rfl rfl
theorem dX12_look_7 : decode cX12_look 7 = .ok (.lconst 0, 1) := dq9 bw_cX12_look_0 7 rfl rfl
theorem dX12_look_8 : decode cX12_look 8 = .ok (.lconst 1, 1) := dq10 bw_cX12_look_0 8 rfl rfl
theorem dX12_look_9 : decode cX12_look 9 = .ok (.invokestatic 17, 3) := dq184 bw_cX12_look_0 9 rfl rfl rfl
theorem dX12_look_12 : decode cX12_look 12 = .ok (.ifCond .ne 5, 3) := dq154 bw_cX12_look_0 12 rfl rfl rfl
theorem dX12_look_15 : decode cX12_look 15 = .ok (.iconst (-1), 1) := dq2 bw_cX12_look_0 15 rfl rfl
theorem dX12_look_16 : decode cX12_look 16 = .ok (.ireturn, 1) := dq172 bw_cX12_look_0 16 rfl rfl
theorem dX12_look_17 : decode cX12_look 17 = .ok (.aload_n 0, 1) := dq42 bw_cX12_look_0 17 rfl rfl
theorem dX12_look_18 : decode cX12_look 18 = .ok (.getfield 220, 3) := dq180 bw_cX12_look_0 18 rfl rfl rfl
theorem dX12_look_21 : decode cX12_look 21 = .ok (.iload_n 1, 1) := dq27 bw_cX12_look_0 21 rfl rfl
theorem dX12_look_22 : decode cX12_look 22 = .ok (.iaload, 1) := dq46 bw_cX12_look_0 22 rfl rfl
theorem dX12_look_23 : decode cX12_look 23 = .ok (.ifCond .ge 6, 3) := dq156 bw_cX12_look_0 23 rfl rfl rfl
theorem bw_cX12_look_1 : dq_w cX12_look 24 [0, 6, 16, 253, 172, 42, 182, 0, 241, 42, 42, 180, 0, 220, 27, 46, 181, 0, 177, 16, 254, 61, 3, 62, 3, 54, 4] = true := by decide +kernel
theorem dX12_look_26 : decode cX12_look 26 = .ok (.bipush (-3), 2) := dq16 bw_cX12_look_1 2 rfl rfl rfl
theorem dX12_look_28 : decode cX12_look 28 = .ok (.ireturn, 1) := dq172 bw_cX12_look_1 4 rfl rfl
theorem dX12_look_29 : decode cX12_look 29 = .ok (.aload_n 0, 1) := dq42 bw_cX12_look_1 5 rfl rfl
theorem dX12_look_30 : decode cX12_look 30 = .ok (.invokevirtual 241, 3) := dq182 bw_cX12_look_1 6 rfl rfl rfl
theorem dX12_look_33 : decode cX12_look 33 = .ok (.aload_n 0, 1) := dq42 bw_cX12_look_1 9 rfl rfl
theorem dX12_look_34 : decode cX12_look 34 = .ok (.aload_n 0, 1) := dq42 bw_cX12_look_1 10 rfl rfl
theorem dX12_look_35 : decode cX12_look 35 = .ok (.getfield 220, 3) := dq180 bw_cX12_look_1 11 rfl rfl rfl
theorem dX12_look_38 : decode cX12_look 38 = .ok (.iload_n 1, 1) := dq27 bw_cX12_look_1 14 rfl rfl
theorem dX12_look_39 : decode cX12_look 39 = .ok (.iaload, 1) := dq46 bw_cX12_look_1 15 rfl rfl
theorem dX12_look_40 : decode cX12_look 40 = .ok (.putfield 177, 3) := dq181 bw_cX12_look_1 16 rfl rfl rfl
theorem dX12_look_43 : decode cX12_look 43 = .ok (.bipush (-2), 2) := dq16 bw_cX12_look_1 19 rfl rfl rfl
theorem dX12_look_45 : decode cX12_look 45 = .ok (.istore_n 2, 1) := dq61 bw_cX12_look_1 21 rfl rfl
theorem dX12_look_46 : decode cX12_look 46 = .ok (.iconst 0, 1) := dq3 bw_cX12_look_1 22 rfl rfl
theorem dX12_look_47 : decode cX12_look 47 = .ok (.istore_n 3, 1) := dq62 bw_cX12_look_1 23 rfl rfl
theorem bw_cX12_look_2 : dq_w cX12_look 48 [3, 54, 4, 3, 54, 5, 3, 54, 6, 21, 6, 42, 180, 0, 223, 27, 46, 162, 0, 69, 28, 16, 254, 160, 0, 63, 42] = true := by decide +kernel
theorem dX12_look_48 : decode cX12_look 48 = .ok (.iconst 0, 1) := dq3 bw_cX12_look_2 0 rfl rfl
theorem dX12_look_49 : decode cX12_look 49 = .ok (.istore 4, 2) := dq54 bw_cX12_look_2 1 rfl rfl
theorem dX12_look_51 : decode cX12_look 51 = .ok (.iconst 0, 1) := dq3 bw_cX12_look_2 3 rfl rfl
theorem dX12_look_52 : decode cX12_look 52 = .ok (.istore 5, 2) := dq54 bw_cX12_look_2 4 rfl rfl
theorem dX12_look_54 : decode cX12_look 54 = .ok (.iconst 0, 1) := dq3 bw_cX12_look_2 6 rfl rfl
theorem dX12_look_55 : decode cX12_look 55 = .ok (.istore 6, 2) := dq54 bw_cX12_look_2 7 rfl rfl
theorem dX12_look_57 : decode cX12_look 57 = .ok (.iload 6, 2) := dq21 bw_cX12_look_2 9 rfl rfl
theorem dX12_look_59 : decode cX12_look 59 = .ok (.aload_n 0, 1) := dq42 bw_cX12_look_2 11 rfl rfl
theorem dX12_look_60 : decode cX12_look 60 = .ok (.getfield 223, 3) := dq180 bw_cX12_look_2 12 rfl rfl rfl
theorem dX12_look_63 : decode cX12_look 63 = .ok (.iload_n 1, 1) := dq27 bw_cX12_look_2 15 rfl rfl
theorem dX12_look_64 : decode cX12_look 64 = .ok (.iaload, 1) := dq46 bw_cX12_look_2 16 rfl rfl
theorem dX12_look_65 : decode cX12_look 65 = .ok (.if_icmp .ge 69, 3) := dq162 bw_cX12_look_2 17 rfl rfl rfl
theorem dX12_look_68 : decode cX12_look 68 = .ok (.iload_n 2, 1) := dq28 bw_cX12_look_2 20 rfl rfl
theorem dX12_look_69 : decode cX12_look 69 = .ok (.bipush (-2), 2) := dq16 bw_cX12_look_2 21 rfl rfl rfl
theorem dX12_look_71 : decode cX12_look 71 = .ok (.if_icmp .ne 63, 3) := dq160 bw_cX12_look_2 23 rfl rfl rfl
theorem bw_cX12_look_3 : dq_w cX12_look 72 [0, 63, 42, 180, 0, 226, 16, 30, 27, 104, 21, 6, 96, 46, 54, 7, 42, 21, 7, 182, 0, 204, 62, 29, 156, 0, 9] = true := by decide +kernel
theorem dX12_look_74 : decode cX12_look 74 = .ok (.aload_n 0, 1) := dq42 bw_cX12_look_3 2 rfl rfl
theorem dX12_look_75 : decode cX12_look 75 = .ok (.getfield 226, 3) := dq180 bw_cX12_look_3 3 rfl rfl rfl
theorem dX12_look_78 : decode cX12_look 78 = .ok (.bipush 30, 2) := dq16 bw_cX12_look_3 6 rfl rfl rfl
theorem dX12_look_80 : decode cX12_look 80 = .ok (.iload_n 1, 1) := dq27 bw_cX12_look_3 8 rfl rfl
theorem dX12_look_81 : decode cX12_look 81 = .ok (.imul, 1) := dq104 bw_cX12_look_3 9 rfl rfl
theorem dX12_look_82 : decode cX12_look 82 = .ok (.iload 6, 2) := dq21 bw_cX12_look_3 10 rfl rfl
theorem dX12_look_84 : decode cX12_look 84 = .ok (.iadd, 1) := dq96 bw_cX12_look_3 12 rfl rfl
theorem dX12_look_85 : decode cX12_look 85 = .ok (.iaload, 1) := dq46 bw_cX12_look_3 13 rfl rfl
theorem dX12_look_86 : decode cX12_look 86 = .ok (.istore 7, 2) := dq54 bw_cX12_look_3 14 rfl rfl
theorem dX12_look_88 : decode cX12_look 88 = .ok (.aload_n 0, 1) := dq42 bw_cX12_look_3 16 rfl rfl
theorem dX12_look_89 : decode cX12_look 89 = .ok (.iload 7, 2) := dq21 bw_cX12_look_3 17 rfl rfl
theorem dX12_look_91 : decode cX12_look 91 = .ok (.invokevirtual 204, 3) := dq182 bw_cX12_look_3 19 rfl rfl rfl
theorem dX12_look_94 : decode cX12_look 94 = .ok (.istore_n 3, 1) := dq62 bw_cX12_look_3 22 rfl rfl
theorem dX12_look_95 : decode cX12_look 95 = .ok (.iload_n 3, 1) := dq29 bw_cX12_look_3 23 rfl rfl
theorem bw_cX12_look_4 : dq_w cX12_look 96 [156, 0, 9, 21, 6, 61, 167, 0, 26, 21, 4, 42, 21, 7, 182, 0, 211, 96, 54, 4, 21, 5, 42, 180, 0, 95, 21] = true := by decide +kernel
theorem dX12_look_96 : decode cX12_look 96 = .ok (.ifCond .ge 9, 3) := dq156 bw_cX12_look_4 0 rfl rfl rfl
theorem dX12_look_99 : decode cX12_look 99 = .ok (.iload 6, 2) := dq21 bw_cX12_look_4 3 rfl rfl
theorem dX12_look_101 : decode cX12_look 101 = .ok (.istore_n 2, 1) := dq61 bw_cX12_look_4 5 rfl rfl
theorem dX12_look_102 : decode cX12_look 102 = .ok (.goto 26, 3) := dq167 bw_cX12_look_4 6 rfl rfl rfl
theorem dX12_look_105 : decode cX12_look 105 = .ok (.iload 4, 2) := dq21 bw_cX12_look_4 9 rfl rfl
theorem dX12_look_107 : decode cX12_look 107 = .ok (.aload_n 0, 1) := dq42 bw_cX12_look_4 11 rfl rfl
theorem dX12_look_108 : decode cX12_look 108 = .ok (.iload 7, 2) := dq21 bw_cX12_look_4 12 rfl rfl
theorem dX12_look_110 : decode cX12_look 110 = .ok (.invokevirtual 211, 3) := dq182 bw_cX12_look_4 14 rfl rfl rfl
theorem dX12_look_113 : decode cX12_look 113 = .ok (.iadd, 1) := dq96 bw_cX12_look_4 17 rfl rfl
theorem dX12_look_114 : decode cX12_look 114 = .ok (.istore 4, 2) := dq54 bw_cX12_look_4 18 rfl rfl
theorem dX12_look_116 : decode cX12_look 116 = .ok (.iload 5, 2) := dq21 bw_cX12_look_4 20 rfl rfl
theorem dX12_look_118 : decode cX12_look 118 = .ok (.aload_n 0, 1) := dq42 bw_cX12_look_4 22 rfl rfl
theorem dX12_look_119 : decode cX12_look 119 = .ok (.getfield 95, 3) := dq180 bw_cX12_look_4 23 rfl rfl rfl
theorem bw_cX12_look_5 : dq_w cX12_look 120 [0, 95, 21, 7, 46, 96, 54, 5, 132, 6, 1, 167, 255, 182, 42, 182, 0, 245, 42, 3, 181, 0, 11, 42, 29, 182, 0] = true := by decide +kernel
theorem dX12_look_122 : decode cX12_look 122 = .ok (.iload 7, 2) := dq21 bw_cX12_look_5 2 rfl rfl
theorem dX12_look_124 : decode cX12_look 124 = .ok (.iaload, 1) := dq46 bw_cX12_look_5 4 rfl rfl
theorem dX12_look_125 : decode cX12_look 125 = .ok (.iadd, 1) := dq96 bw_cX12_look_5 5 rfl rfl
theorem dX12_look_126 : decode cX12_look 126 = .ok (.istore 5, 2) := dq54 bw_cX12_look_5 6 rfl rfl
theorem dX12_look_128 : decode cX12_look 128 = .ok (.iinc 6 1, 3) := dq132 bw_cX12_look_5 8 rfl rfl rfl
theorem dX12_look_131 : decode cX12_look 131 = .ok (.goto (-74), 3) := dq167 bw_cX12_look_5 11 rfl rfl rfl
theorem dX12_look_134 : decode cX12_look 134 = .ok (.aload_n 0, 1) := dq42 bw_cX12_look_5 14 rfl rfl
theorem dX12_look_135 : decode cX12_look 135 = .ok (.invokevirtual 245, 3) := dq182 bw_cX12_look_5 15 rfl rfl rfl
theorem dX12_look_138 : decode cX12_look 138 = .ok (.aload_n 0, 1) := dq42 bw_cX12_look_5 18 rfl rfl
theorem dX12_look_139 : decode cX12_look 139 = .ok (.iconst 0, 1) := dq3 bw_cX12_look_5 19 rfl rfl
theorem dX12_look_140 : decode cX12_look 140 = .ok (.putfield 11, 3) := dq181 bw_cX12_look_5 20 rfl rfl rfl
theorem dX12_look_143 : decode cX12_look 143 = .ok (.aload_n 0, 1) := dq42 bw_cX12_look_5 23 rfl rfl
theorem bw_cX12_look_6 : dq_w cX12_look 144 [29, 182, 0, 229, 42, 21, 4, 182, 0, 229, 42, 21, 5, 182, 0, 229, 28, 172] = true := by decide +kernel
theorem dX12_look_144 : decode cX12_look 144 = .ok (.iload_n 3, 1) := dq29 bw_cX12_look_6 0 rfl rfl
theorem dX12_look_145 : decode cX12_look 145 = .ok (.invokevirtual 229, 3) := dq182 bw_cX12_look_6 1 rfl rfl rfl
theorem dX12_look_148 : decode cX12_look 148 = .ok (.aload_n 0, 1) := dq42 bw_cX12_look_6 4 rfl rfl
theorem dX12_look_149 : decode cX12_look 149 = .ok (.iload 4, 2) := dq21 bw_cX12_look_6 5 rfl rfl
theorem dX12_look_151 : decode cX12_look 151 = .ok (.invokevirtual 229, 3) := dq182 bw_cX12_look_6 7 rfl rfl rfl
theorem dX12_look_154 : decode cX12_look 154 = .ok (.aload_n 0, 1) := dq42 bw_cX12_look_6 10 rfl rfl
theorem dX12_look_155 : decode cX12_look 155 = .ok (.iload 5, 2) := dq21 bw_cX12_look_6 11 rfl rfl
theorem dX12_look_157 : decode cX12_look 157 = .ok (.invokevirtual 229, 3) := dq182 bw_cX12_look_6 13 rfl rfl rfl
theorem dX12_look_160 : decode cX12_look 160 = .ok (.iload_n 2, 1) := dq28 bw_cX12_look_6 16 rfl rfl
theorem dX12_look_161 : decode cX12_look 161 = .ok (.ireturn, 1) := dq172 bw_cX12_look_6 17 rfl rfl
theorem bw_cX12_cornerOf_0 : dq_w cX12_cornerOf 0 [42, 180, 0, 220, 27, 46, 54, 4, 28, 54, 5, 29, 21, 5, 163, 0, 8, 21, 4, 167, 0, 4, 2, 54, 6, 3, 54] = true := by decide +kernel
theorem dX12_cornerOf_0 : decode cX12_cornerOf 0 = .ok (.aload_n 0, 1) := dq42 bw_cX12_cornerOf_0 0 rfl rfl
theorem dX12_cornerOf_1 : decode cX12_cornerOf 1 = .ok (.getfield 220, 3) := dq180 bw_cX12_cornerOf_0 1 rfl rfl rfl
theorem dX12_cornerOf_4 : decode cX12_cornerOf 4 = .ok (.iload_n 1, 1) := dq27 bw_cX12_cornerOf_0 4 rfl rfl
theorem dX12_cornerOf_5 : decode cX12_cornerOf 5 = .ok (.iaload, 1) := dq46 bw_cX12_cornerOf_0 5 rfl rfl
theorem dX12_cornerOf_6 : decode cX12_cornerOf 6 = .ok (.istore 4, 2) := dq54 bw_cX12_cornerOf_0 6 rfl rfl
theorem dX12_cornerOf_8 : decode cX12_cornerOf 8 = .ok (.iload_n 2, 1) := dq28 bw_cX12_cornerOf_0 8 rfl rfl
theorem dX12_cornerOf_9 : decode cX12_cornerOf 9 = .ok (.istore 5, 2) := dq54 bw_cX12_cornerOf_0 9 rfl rfl
theorem dX12_cornerOf_11 : decode cX12_cornerOf 11 = .ok (.iload_n 3, 1) := dq29 bw_cX12_cornerOf_0 11 rfl rfl
theorem dX12_cornerOf_12 : decode cX12_cornerOf 12 = .ok (.iload 5, 2) := dq21 bw_cX12_cornerOf_0 12 rfl rfl
theorem dX12_cornerOf_14 : decode cX12_cornerOf 14 = .ok (.if_icmp .gt 8, 3) := dq163 bw_cX12_cornerOf_0 14 rfl rfl rfl
theorem dX12_cornerOf_17 : decode cX12_cornerOf 17 = .ok (.iload 4, 2) := dq21 bw_cX12_cornerOf_0 17 rfl rfl
theorem dX12_cornerOf_19 : decode cX12_cornerOf 19 = .ok (.goto 4, 3) := dq167 bw_cX12_cornerOf_0 19 rfl rfl rfl
theorem dX12_cornerOf_22 : decode cX12_cornerOf 22 = .ok (.iconst (-1), 1) := dq2 bw_cX12_cornerOf_0 22 rfl rfl
theorem dX12_cornerOf_23 : decode cX12_cornerOf 23 = .ok (.istore 6, 2) := dq54 bw_cX12_cornerOf_0 23 rfl rfl
theorem bw_cX12_cornerOf_1 : dq_w cX12_cornerOf 24 [6, 3, 54, 7, 21, 7, 42, 180, 0, 223, 27, 46, 162, 0, 61, 42, 180, 0, 226, 16, 30, 27, 104, 21, 7, 96, 46] = true := by decide +kernel
theorem dX12_cornerOf_25 : decode cX12_cornerOf 25 = .ok (.iconst 0, 1) := dq3 bw_cX12_cornerOf_1 1 rfl rfl
theorem dX12_cornerOf_26 : decode cX12_cornerOf 26 = .ok (.istore 7, 2) := dq54 bw_cX12_cornerOf_1 2 rfl rfl
theorem dX12_cornerOf_28 : decode cX12_cornerOf 28 = .ok (.iload 7, 2) := dq21 bw_cX12_cornerOf_1 4 rfl rfl
theorem dX12_cornerOf_30 : decode cX12_cornerOf 30 = .ok (.aload_n 0, 1) := dq42 bw_cX12_cornerOf_1 6 rfl rfl
theorem dX12_cornerOf_31 : decode cX12_cornerOf 31 = .ok (.getfield 223, 3) := dq180 bw_cX12_cornerOf_1 7 rfl rfl rfl
theorem dX12_cornerOf_34 : decode cX12_cornerOf 34 = .ok (.iload_n 1, 1) := dq27 bw_cX12_cornerOf_1 10 rfl rfl
theorem dX12_cornerOf_35 : decode cX12_cornerOf 35 = .ok (.iaload, 1) := dq46 bw_cX12_cornerOf_1 11 rfl rfl
theorem dX12_cornerOf_36 : decode cX12_cornerOf 36 = .ok (.if_icmp .ge 61, 3) := dq162 bw_cX12_cornerOf_1 12 rfl rfl rfl
theorem dX12_cornerOf_39 : decode cX12_cornerOf 39 = .ok (.aload_n 0, 1) := dq42 bw_cX12_cornerOf_1 15 rfl rfl
theorem dX12_cornerOf_40 : decode cX12_cornerOf 40 = .ok (.getfield 226, 3) := dq180 bw_cX12_cornerOf_1 16 rfl rfl rfl
theorem dX12_cornerOf_43 : decode cX12_cornerOf 43 = .ok (.bipush 30, 2) := dq16 bw_cX12_cornerOf_1 19 rfl rfl rfl
theorem dX12_cornerOf_45 : decode cX12_cornerOf 45 = .ok (.iload_n 1, 1) := dq27 bw_cX12_cornerOf_1 21 rfl rfl
theorem dX12_cornerOf_46 : decode cX12_cornerOf 46 = .ok (.imul, 1) := dq104 bw_cX12_cornerOf_1 22 rfl rfl
theorem dX12_cornerOf_47 : decode cX12_cornerOf 47 = .ok (.iload 7, 2) := dq21 bw_cX12_cornerOf_1 23 rfl rfl
theorem bw_cX12_cornerOf_2 : dq_w cX12_cornerOf 48 [7, 96, 46, 54, 8, 21, 5, 42, 21, 8, 21, 4, 182, 0, 186, 96, 54, 5, 42, 21, 8, 21, 4, 182, 0, 201, 54] = true := by decide +kernel
theorem dX12_cornerOf_49 : decode cX12_cornerOf 49 = .ok (.iadd, 1) := dq96 bw_cX12_cornerOf_2 1 rfl rfl
theorem dX12_cornerOf_50 : decode cX12_cornerOf 50 = .ok (.iaload, 1) := dq46 bw_cX12_cornerOf_2 2 rfl rfl
theorem dX12_cornerOf_51 : decode cX12_cornerOf 51 = .ok (.istore 8, 2) := dq54 bw_cX12_cornerOf_2 3 rfl rfl
theorem dX12_cornerOf_53 : decode cX12_cornerOf 53 = .ok (.iload 5, 2) := dq21 bw_cX12_cornerOf_2 5 rfl rfl
theorem dX12_cornerOf_55 : decode cX12_cornerOf 55 = .ok (.aload_n 0, 1) := dq42 bw_cX12_cornerOf_2 7 rfl rfl
theorem dX12_cornerOf_56 : decode cX12_cornerOf 56 = .ok (.iload 8, 2) := dq21 bw_cX12_cornerOf_2 8 rfl rfl
theorem dX12_cornerOf_58 : decode cX12_cornerOf 58 = .ok (.iload 4, 2) := dq21 bw_cX12_cornerOf_2 10 rfl rfl
theorem dX12_cornerOf_60 : decode cX12_cornerOf 60 = .ok (.invokevirtual 186, 3) := dq182 bw_cX12_cornerOf_2 12 rfl rfl rfl
theorem dX12_cornerOf_63 : decode cX12_cornerOf 63 = .ok (.iadd, 1) := dq96 bw_cX12_cornerOf_2 15 rfl rfl
theorem dX12_cornerOf_64 : decode cX12_cornerOf 64 = .ok (.istore 5, 2) := dq54 bw_cX12_cornerOf_2 16 rfl rfl
theorem dX12_cornerOf_66 : decode cX12_cornerOf 66 = .ok (.aload_n 0, 1) := dq42 bw_cX12_cornerOf_2 18 rfl rfl
theorem dX12_cornerOf_67 : decode cX12_cornerOf 67 = .ok (.iload 8, 2) := dq21 bw_cX12_cornerOf_2 19 rfl rfl
theorem dX12_cornerOf_69 : decode cX12_cornerOf 69 = .ok (.iload 4, 2) := dq21 bw_cX12_cornerOf_2 21 rfl rfl
theorem dX12_cornerOf_71 : decode cX12_cornerOf 71 = .ok (.invokevirtual 201, 3) := dq182 bw_cX12_cornerOf_2 23 rfl rfl rfl
theorem bw_cX12_cornerOf_3 : dq_w cX12_cornerOf 72 [0, 201, 54, 4, 29, 21, 5, 160, 0, 8, 21, 4, 167, 0, 5, 21, 6, 54, 6, 132, 7, 1, 167, 255, 190, 42, 21] = true := by decide +kernel
theorem dX12_cornerOf_74 : decode cX12_cornerOf 74 = .ok (.istore 4, 2) := dq54 bw_cX12_cornerOf_3 2 rfl rfl
theorem dX12_cornerOf_76 : decode cX12_cornerOf 76 = .ok (.iload_n 3, 1) := dq29 bw_cX12_cornerOf_3 4 rfl rfl
theorem dX12_cornerOf_77 : decode cX12_cornerOf 77 = .ok (.iload 5, 2) := dq21 bw_cX12_cornerOf_3 5 rfl rfl
theorem dX12_cornerOf_79 : decode cX12_cornerOf 79 = .ok (.if_icmp .ne 8, 3) := dq160 bw_cX12_cornerOf_3 7 rfl rfl rfl
theorem dX12_cornerOf_82 : decode cX12_cornerOf 82 = .ok (.iload 4, 2) := dq21 bw_cX12_cornerOf_3 10 rfl rfl
theorem dX12_cornerOf_84 : decode cX12_cornerOf 84 = .ok (.goto 5, 3) := dq167 bw_cX12_cornerOf_3 12 rfl rfl rfl
theorem dX12_cornerOf_87 : decode cX12_cornerOf 87 = .ok (.iload 6, 2) := dq21 bw_cX12_cornerOf_3 15 rfl rfl
theorem dX12_cornerOf_89 : decode cX12_cornerOf 89 = .ok (.istore 6, 2) := dq54 bw_cX12_cornerOf_3 17 rfl rfl
theorem dX12_cornerOf_91 : decode cX12_cornerOf 91 = .ok (.iinc 7 1, 3) := dq132 bw_cX12_cornerOf_3 19 rfl rfl rfl
theorem dX12_cornerOf_94 : decode cX12_cornerOf 94 = .ok (.goto (-66), 3) := dq167 bw_cX12_cornerOf_3 22 rfl rfl rfl
theorem bw_cX12_cornerOf_4 : dq_w cX12_cornerOf 96 [190, 42, 21, 5, 181, 0, 248, 29, 21, 5, 161, 0, 8, 21, 4, 167, 0, 5, 21, 6, 172] = true := by decide +kernel
theorem dX12_cornerOf_97 : decode cX12_cornerOf 97 = .ok (.aload_n 0, 1) := dq42 bw_cX12_cornerOf_4 1 rfl rfl
theorem dX12_cornerOf_98 : decode cX12_cornerOf 98 = .ok (.iload 5, 2) := dq21 bw_cX12_cornerOf_4 2 rfl rfl
theorem dX12_cornerOf_100 : decode cX12_cornerOf 100 = .ok (.putfield 248, 3) := dq181 bw_cX12_cornerOf_4 4 rfl rfl rfl
theorem dX12_cornerOf_103 : decode cX12_cornerOf 103 = .ok (.iload_n 3, 1) := dq29 bw_cX12_cornerOf_4 7 rfl rfl
theorem dX12_cornerOf_104 : decode cX12_cornerOf 104 = .ok (.iload 5, 2) := dq21 bw_cX12_cornerOf_4 8 rfl rfl
theorem dX12_cornerOf_106 : decode cX12_cornerOf 106 = .ok (.if_icmp .lt 8, 3) := dq161 bw_cX12_cornerOf_4 10 rfl rfl rfl
theorem dX12_cornerOf_109 : decode cX12_cornerOf 109 = .ok (.iload 4, 2) := dq21 bw_cX12_cornerOf_4 13 rfl rfl
theorem dX12_cornerOf_111 : decode cX12_cornerOf 111 = .ok (.goto 5, 3) := dq167 bw_cX12_cornerOf_4 15 rfl rfl rfl
theorem dX12_cornerOf_114 : decode cX12_cornerOf 114 = .ok (.iload 6, 2) := dq21 bw_cX12_cornerOf_4 18 rfl rfl
theorem dX12_cornerOf_116 : decode cX12_cornerOf 116 = .ok (.ireturn, 1) := dq172 bw_cX12_cornerOf_4 20 rfl rfl
theorem bw_cX12_meetsBy_0 : dq_w cX12_meetsBy 0 [42, 3, 3, 3, 182, 0, 251, 87, 42, 180, 0, 248, 61, 42, 4, 27, 3, 182, 0, 251, 87, 28, 42, 180, 0, 248, 184] = true := by decide +kernel
theorem dX12_meetsBy_0 : decode cX12_meetsBy 0 = .ok (.aload_n 0, 1) := dq42 bw_cX12_meetsBy_0 0 rfl rfl
theorem dX12_meetsBy_1 : decode cX12_meetsBy 1 = .ok (.iconst 0, 1) := dq3 bw_cX12_meetsBy_0 1 rfl rfl
theorem dX12_meetsBy_2 : decode cX12_meetsBy 2 = .ok (.iconst 0, 1) := dq3 bw_cX12_meetsBy_0 2 rfl rfl
theorem dX12_meetsBy_3 : decode cX12_meetsBy 3 = .ok (.iconst 0, 1) := dq3 bw_cX12_meetsBy_0 3 rfl rfl
theorem dX12_meetsBy_4 : decode cX12_meetsBy 4 = .ok (.invokevirtual 251, 3) := dq182 bw_cX12_meetsBy_0 4 rfl rfl rfl
theorem dX12_meetsBy_7 : decode cX12_meetsBy 7 = .ok (.pop, 1) := dq87 bw_cX12_meetsBy_0 7 rfl rfl
theorem dX12_meetsBy_8 : decode cX12_meetsBy 8 = .ok (.aload_n 0, 1) := dq42 bw_cX12_meetsBy_0 8 rfl rfl
theorem dX12_meetsBy_9 : decode cX12_meetsBy 9 = .ok (.getfield 248, 3) := dq180 bw_cX12_meetsBy_0 9 rfl rfl rfl
theorem dX12_meetsBy_12 : decode cX12_meetsBy 12 = .ok (.istore_n 2, 1) := dq61 bw_cX12_meetsBy_0 12 rfl rfl
theorem dX12_meetsBy_13 : decode cX12_meetsBy 13 = .ok (.aload_n 0, 1) := dq42 bw_cX12_meetsBy_0 13 rfl rfl
theorem dX12_meetsBy_14 : decode cX12_meetsBy 14 = .ok (.iconst 1, 1) := dq4 bw_cX12_meetsBy_0 14 rfl rfl
theorem dX12_meetsBy_15 : decode cX12_meetsBy 15 = .ok (.iload_n 1, 1) := dq27 bw_cX12_meetsBy_0 15 rfl rfl
theorem dX12_meetsBy_16 : decode cX12_meetsBy 16 = .ok (.iconst 0, 1) := dq3 bw_cX12_meetsBy_0 16 rfl rfl
theorem dX12_meetsBy_17 : decode cX12_meetsBy 17 = .ok (.invokevirtual 251, 3) := dq182 bw_cX12_meetsBy_0 17 rfl rfl rfl
theorem dX12_meetsBy_20 : decode cX12_meetsBy 20 = .ok (.pop, 1) := dq87 bw_cX12_meetsBy_0 20 rfl rfl
theorem dX12_meetsBy_21 : decode cX12_meetsBy 21 = .ok (.iload_n 2, 1) := dq28 bw_cX12_meetsBy_0 21 rfl rfl
theorem dX12_meetsBy_22 : decode cX12_meetsBy 22 = .ok (.aload_n 0, 1) := dq42 bw_cX12_meetsBy_0 22 rfl rfl
theorem dX12_meetsBy_23 : decode cX12_meetsBy 23 = .ok (.getfield 248, 3) := dq180 bw_cX12_meetsBy_0 23 rfl rfl rfl
theorem bw_cX12_meetsBy_1 : dq_w cX12_meetsBy 24 [0, 248, 184, 0, 174, 61, 3, 62, 29, 28, 163, 0, 37, 42, 3, 3, 29, 182, 0, 251, 54, 4, 21, 4, 155, 0, 17] = true := by decide +kernel
theorem dX12_meetsBy_26 : decode cX12_meetsBy 26 = .ok (.invokestatic 174, 3) := dq184 bw_cX12_meetsBy_1 2 rfl rfl rfl
theorem dX12_meetsBy_29 : decode cX12_meetsBy 29 = .ok (.istore_n 2, 1) := dq61 bw_cX12_meetsBy_1 5 rfl rfl
theorem dX12_meetsBy_30 : decode cX12_meetsBy 30 = .ok (.iconst 0, 1) := dq3 bw_cX12_meetsBy_1 6 rfl rfl
theorem dX12_meetsBy_31 : decode cX12_meetsBy 31 = .ok (.istore_n 3, 1) := dq62 bw_cX12_meetsBy_1 7 rfl rfl
theorem dX12_meetsBy_32 : decode cX12_meetsBy 32 = .ok (.iload_n 3, 1) := dq29 bw_cX12_meetsBy_1 8 rfl rfl
theorem dX12_meetsBy_33 : decode cX12_meetsBy 33 = .ok (.iload_n 2, 1) := dq28 bw_cX12_meetsBy_1 9 rfl rfl
theorem dX12_meetsBy_34 : decode cX12_meetsBy 34 = .ok (.if_icmp .gt 37, 3) := dq163 bw_cX12_meetsBy_1 10 rfl rfl rfl
theorem dX12_meetsBy_37 : decode cX12_meetsBy 37 = .ok (.aload_n 0, 1) := dq42 bw_cX12_meetsBy_1 13 rfl rfl
theorem dX12_meetsBy_38 : decode cX12_meetsBy 38 = .ok (.iconst 0, 1) := dq3 bw_cX12_meetsBy_1 14 rfl rfl
theorem dX12_meetsBy_39 : decode cX12_meetsBy 39 = .ok (.iconst 0, 1) := dq3 bw_cX12_meetsBy_1 15 rfl rfl
theorem dX12_meetsBy_40 : decode cX12_meetsBy 40 = .ok (.iload_n 3, 1) := dq29 bw_cX12_meetsBy_1 16 rfl rfl
theorem dX12_meetsBy_41 : decode cX12_meetsBy 41 = .ok (.invokevirtual 251, 3) := dq182 bw_cX12_meetsBy_1 17 rfl rfl rfl
theorem dX12_meetsBy_44 : decode cX12_meetsBy 44 = .ok (.istore 4, 2) := dq54 bw_cX12_meetsBy_1 20 rfl rfl
theorem dX12_meetsBy_46 : decode cX12_meetsBy 46 = .ok (.iload 4, 2) := dq21 bw_cX12_meetsBy_1 22 rfl rfl
theorem bw_cX12_meetsBy_2 : dq_w cX12_meetsBy 48 [155, 0, 17, 21, 4, 42, 4, 27, 29, 182, 0, 251, 160, 0, 5, 29, 172, 132, 3, 1, 167, 255, 220, 16, 254, 172] = true := by decide +kernel
theorem dX12_meetsBy_48 : decode cX12_meetsBy 48 = .ok (.ifCond .lt 17, 3) := dq155 bw_cX12_meetsBy_2 0 rfl rfl rfl
theorem dX12_meetsBy_51 : decode cX12_meetsBy 51 = .ok (.iload 4, 2) := dq21 bw_cX12_meetsBy_2 3 rfl rfl
theorem dX12_meetsBy_53 : decode cX12_meetsBy 53 = .ok (.aload_n 0, 1) := dq42 bw_cX12_meetsBy_2 5 rfl rfl
theorem dX12_meetsBy_54 : decode cX12_meetsBy 54 = .ok (.iconst 1, 1) := dq4 bw_cX12_meetsBy_2 6 rfl rfl
theorem dX12_meetsBy_55 : decode cX12_meetsBy 55 = .ok (.iload_n 1, 1) := dq27 bw_cX12_meetsBy_2 7 rfl rfl
theorem dX12_meetsBy_56 : decode cX12_meetsBy 56 = .ok (.iload_n 3, 1) := dq29 bw_cX12_meetsBy_2 8 rfl rfl
theorem dX12_meetsBy_57 : decode cX12_meetsBy 57 = .ok (.invokevirtual 251, 3) := dq182 bw_cX12_meetsBy_2 9 rfl rfl rfl
theorem dX12_meetsBy_60 : decode cX12_meetsBy 60 = .ok (.if_icmp .ne 5, 3) := dq160 bw_cX12_meetsBy_2 12 rfl rfl rfl
theorem dX12_meetsBy_63 : decode cX12_meetsBy 63 = .ok (.iload_n 3, 1) := dq29 bw_cX12_meetsBy_2 15 rfl rfl
theorem dX12_meetsBy_64 : decode cX12_meetsBy 64 = .ok (.ireturn, 1) := dq172 bw_cX12_meetsBy_2 16 rfl rfl
theorem dX12_meetsBy_65 : decode cX12_meetsBy 65 = .ok (.iinc 3 1, 3) := dq132 bw_cX12_meetsBy_2 17 rfl rfl rfl
theorem dX12_meetsBy_68 : decode cX12_meetsBy 68 = .ok (.goto (-36), 3) := dq167 bw_cX12_meetsBy_2 20 rfl rfl rfl
theorem dX12_meetsBy_71 : decode cX12_meetsBy 71 = .ok (.bipush (-2), 2) := dq16 bw_cX12_meetsBy_2 23 rfl rfl rfl
theorem bw_cX12_meetsBy_3 : dq_w cX12_meetsBy 72 [254, 172] = true := by decide +kernel
theorem dX12_meetsBy_73 : decode cX12_meetsBy 73 = .ok (.ireturn, 1) := dq172 bw_cX12_meetsBy_3 1 rfl rfl
theorem bw_cX12_meets_0 : dq_w cX12_meets 0 [42, 3, 181, 0, 3, 27, 133, 9, 20, 0, 165, 184, 0, 17, 154, 0, 5, 2, 172, 42, 180, 0, 220, 3, 46, 155, 0] = true := by decide +kernel
theorem dX12_meets_0 : decode cX12_meets 0 = .ok (.aload_n 0, 1) := dq42 bw_cX12_meets_0 0 rfl rfl
theorem dX12_meets_1 : decode cX12_meets 1 = .ok (.iconst 0, 1) := dq3 bw_cX12_meets_0 1 rfl rfl
theorem dX12_meets_2 : decode cX12_meets 2 = .ok (.putfield 3, 3) := dq181 bw_cX12_meets_0 2 rfl rfl rfl
theorem dX12_meets_5 : decode cX12_meets 5 = .ok (.iload_n 1, 1) := dq27 bw_cX12_meets_0 5 rfl rfl
theorem dX12_meets_6 : decode cX12_meets 6 = .ok (.i2l, 1) := dq133 bw_cX12_meets_0 6 rfl rfl
theorem dX12_meets_7 : decode cX12_meets 7 = .ok (.lconst 0, 1) := dq9 bw_cX12_meets_0 7 rfl rfl
theorem dX12_meets_8 : decode cX12_meets 8 = .ok (.ldc2_w 165, 3) := dq20 bw_cX12_meets_0 8 rfl rfl rfl
theorem dX12_meets_11 : decode cX12_meets 11 = .ok (.invokestatic 17, 3) := dq184 bw_cX12_meets_0 11 rfl rfl rfl
theorem dX12_meets_14 : decode cX12_meets 14 = .ok (.ifCond .ne 5, 3) := dq154 bw_cX12_meets_0 14 rfl rfl rfl
theorem dX12_meets_17 : decode cX12_meets 17 = .ok (.iconst (-1), 1) := dq2 bw_cX12_meets_0 17 rfl rfl
theorem dX12_meets_18 : decode cX12_meets 18 = .ok (.ireturn, 1) := dq172 bw_cX12_meets_0 18 rfl rfl
theorem dX12_meets_19 : decode cX12_meets 19 = .ok (.aload_n 0, 1) := dq42 bw_cX12_meets_0 19 rfl rfl
theorem dX12_meets_20 : decode cX12_meets 20 = .ok (.getfield 220, 3) := dq180 bw_cX12_meets_0 20 rfl rfl rfl
theorem dX12_meets_23 : decode cX12_meets 23 = .ok (.iconst 0, 1) := dq3 bw_cX12_meets_0 23 rfl rfl
theorem bw_cX12_meets_1 : dq_w cX12_meets 24 [46, 155, 0, 12, 42, 180, 0, 220, 4, 46, 156, 0, 6, 16, 253, 172, 42, 27, 182, 0, 255, 61, 28, 155, 0, 19, 42] = true := by decide +kernel
theorem dX12_meets_24 : decode cX12_meets 24 = .ok (.iaload, 1) := dq46 bw_cX12_meets_1 0 rfl rfl
theorem dX12_meets_25 : decode cX12_meets 25 = .ok (.ifCond .lt 12, 3) := dq155 bw_cX12_meets_1 1 rfl rfl rfl
theorem dX12_meets_28 : decode cX12_meets 28 = .ok (.aload_n 0, 1) := dq42 bw_cX12_meets_1 4 rfl rfl
theorem dX12_meets_29 : decode cX12_meets 29 = .ok (.getfield 220, 3) := dq180 bw_cX12_meets_1 5 rfl rfl rfl
theorem dX12_meets_32 : decode cX12_meets 32 = .ok (.iconst 1, 1) := dq4 bw_cX12_meets_1 8 rfl rfl
theorem dX12_meets_33 : decode cX12_meets 33 = .ok (.iaload, 1) := dq46 bw_cX12_meets_1 9 rfl rfl
theorem dX12_meets_34 : decode cX12_meets 34 = .ok (.ifCond .ge 6, 3) := dq156 bw_cX12_meets_1 10 rfl rfl rfl
theorem dX12_meets_37 : decode cX12_meets 37 = .ok (.bipush (-3), 2) := dq16 bw_cX12_meets_1 13 rfl rfl rfl
theorem dX12_meets_39 : decode cX12_meets 39 = .ok (.ireturn, 1) := dq172 bw_cX12_meets_1 15 rfl rfl
theorem dX12_meets_40 : decode cX12_meets 40 = .ok (.aload_n 0, 1) := dq42 bw_cX12_meets_1 16 rfl rfl
theorem dX12_meets_41 : decode cX12_meets 41 = .ok (.iload_n 1, 1) := dq27 bw_cX12_meets_1 17 rfl rfl
theorem dX12_meets_42 : decode cX12_meets 42 = .ok (.invokevirtual 255, 3) := dq182 bw_cX12_meets_1 18 rfl rfl rfl
theorem dX12_meets_45 : decode cX12_meets 45 = .ok (.istore_n 2, 1) := dq61 bw_cX12_meets_1 21 rfl rfl
theorem dX12_meets_46 : decode cX12_meets 46 = .ok (.iload_n 2, 1) := dq28 bw_cX12_meets_1 22 rfl rfl
theorem dX12_meets_47 : decode cX12_meets 47 = .ok (.ifCond .lt 19, 3) := dq155 bw_cX12_meets_1 23 rfl rfl rfl
theorem bw_cX12_meets_2 : dq_w cX12_meets 48 [0, 19, 42, 3, 181, 0, 11, 42, 42, 3, 3, 28, 182, 0, 251, 182, 0, 229, 28, 172] = true := by decide +kernel
theorem dX12_meets_50 : decode cX12_meets 50 = .ok (.aload_n 0, 1) := dq42 bw_cX12_meets_2 2 rfl rfl
theorem dX12_meets_51 : decode cX12_meets 51 = .ok (.iconst 0, 1) := dq3 bw_cX12_meets_2 3 rfl rfl
theorem dX12_meets_52 : decode cX12_meets 52 = .ok (.putfield 11, 3) := dq181 bw_cX12_meets_2 4 rfl rfl rfl
theorem dX12_meets_55 : decode cX12_meets 55 = .ok (.aload_n 0, 1) := dq42 bw_cX12_meets_2 7 rfl rfl
theorem dX12_meets_56 : decode cX12_meets 56 = .ok (.aload_n 0, 1) := dq42 bw_cX12_meets_2 8 rfl rfl
theorem dX12_meets_57 : decode cX12_meets 57 = .ok (.iconst 0, 1) := dq3 bw_cX12_meets_2 9 rfl rfl
theorem dX12_meets_58 : decode cX12_meets 58 = .ok (.iconst 0, 1) := dq3 bw_cX12_meets_2 10 rfl rfl
theorem dX12_meets_59 : decode cX12_meets 59 = .ok (.iload_n 2, 1) := dq28 bw_cX12_meets_2 11 rfl rfl
theorem dX12_meets_60 : decode cX12_meets 60 = .ok (.invokevirtual 251, 3) := dq182 bw_cX12_meets_2 12 rfl rfl rfl
theorem dX12_meets_63 : decode cX12_meets 63 = .ok (.invokevirtual 229, 3) := dq182 bw_cX12_meets_2 15 rfl rfl rfl
theorem dX12_meets_66 : decode cX12_meets 66 = .ok (.iload_n 2, 1) := dq28 bw_cX12_meets_2 18 rfl rfl
theorem dX12_meets_67 : decode cX12_meets 67 = .ok (.ireturn, 1) := dq172 bw_cX12_meets_2 19 rfl rfl
theorem bw_cX12_apart_0 : dq_w cX12_apart 0 [42, 3, 181, 0, 3, 42, 180, 0, 220, 3, 46, 155, 0, 12, 42, 180, 0, 220, 4, 46, 156, 0, 6, 16, 253, 172, 3] = true := by decide +kernel
theorem dX12_apart_0 : decode cX12_apart 0 = .ok (.aload_n 0, 1) := dq42 bw_cX12_apart_0 0 rfl rfl
theorem dX12_apart_1 : decode cX12_apart 1 = .ok (.iconst 0, 1) := dq3 bw_cX12_apart_0 1 rfl rfl
theorem dX12_apart_2 : decode cX12_apart 2 = .ok (.putfield 3, 3) := dq181 bw_cX12_apart_0 2 rfl rfl rfl
theorem dX12_apart_5 : decode cX12_apart 5 = .ok (.aload_n 0, 1) := dq42 bw_cX12_apart_0 5 rfl rfl
theorem dX12_apart_6 : decode cX12_apart 6 = .ok (.getfield 220, 3) := dq180 bw_cX12_apart_0 6 rfl rfl rfl
theorem dX12_apart_9 : decode cX12_apart 9 = .ok (.iconst 0, 1) := dq3 bw_cX12_apart_0 9 rfl rfl
theorem dX12_apart_10 : decode cX12_apart 10 = .ok (.iaload, 1) := dq46 bw_cX12_apart_0 10 rfl rfl
theorem dX12_apart_11 : decode cX12_apart 11 = .ok (.ifCond .lt 12, 3) := dq155 bw_cX12_apart_0 11 rfl rfl rfl
theorem dX12_apart_14 : decode cX12_apart 14 = .ok (.aload_n 0, 1) := dq42 bw_cX12_apart_0 14 rfl rfl
theorem dX12_apart_15 : decode cX12_apart 15 = .ok (.getfield 220, 3) := dq180 bw_cX12_apart_0 15 rfl rfl rfl
theorem dX12_apart_18 : decode cX12_apart 18 = .ok (.iconst 1, 1) := dq4 bw_cX12_apart_0 18 rfl rfl
theorem dX12_apart_19 : decode cX12_apart 19 = .ok (.iaload, 1) := dq46 bw_cX12_apart_0 19 rfl rfl
theorem dX12_apart_20 : decode cX12_apart 20 = .ok (.ifCond .ge 6, 3) := dq156 bw_cX12_apart_0 20 rfl rfl rfl
theorem dX12_apart_23 : decode cX12_apart 23 = .ok (.bipush (-3), 2) := dq16 bw_cX12_apart_0 23 rfl rfl rfl
theorem bw_cX12_apart_1 : dq_w cX12_apart 24 [253, 172, 3, 60, 27, 16, 99, 163, 0, 19, 42, 27, 182, 0, 255, 156, 0, 5, 27, 172, 132, 1, 1, 167, 255, 237, 16] = true := by decide +kernel
theorem dX12_apart_25 : decode cX12_apart 25 = .ok (.ireturn, 1) := dq172 bw_cX12_apart_1 1 rfl rfl
theorem dX12_apart_26 : decode cX12_apart 26 = .ok (.iconst 0, 1) := dq3 bw_cX12_apart_1 2 rfl rfl
theorem dX12_apart_27 : decode cX12_apart 27 = .ok (.istore_n 1, 1) := dq60 bw_cX12_apart_1 3 rfl rfl
theorem dX12_apart_28 : decode cX12_apart 28 = .ok (.iload_n 1, 1) := dq27 bw_cX12_apart_1 4 rfl rfl
theorem dX12_apart_29 : decode cX12_apart 29 = .ok (.bipush 99, 2) := dq16 bw_cX12_apart_1 5 rfl rfl rfl
theorem dX12_apart_31 : decode cX12_apart 31 = .ok (.if_icmp .gt 19, 3) := dq163 bw_cX12_apart_1 7 rfl rfl rfl
theorem dX12_apart_34 : decode cX12_apart 34 = .ok (.aload_n 0, 1) := dq42 bw_cX12_apart_1 10 rfl rfl
theorem dX12_apart_35 : decode cX12_apart 35 = .ok (.iload_n 1, 1) := dq27 bw_cX12_apart_1 11 rfl rfl
theorem dX12_apart_36 : decode cX12_apart 36 = .ok (.invokevirtual 255, 3) := dq182 bw_cX12_apart_1 12 rfl rfl rfl
theorem dX12_apart_39 : decode cX12_apart 39 = .ok (.ifCond .ge 5, 3) := dq156 bw_cX12_apart_1 15 rfl rfl rfl
theorem dX12_apart_42 : decode cX12_apart 42 = .ok (.iload_n 1, 1) := dq27 bw_cX12_apart_1 18 rfl rfl
theorem dX12_apart_43 : decode cX12_apart 43 = .ok (.ireturn, 1) := dq172 bw_cX12_apart_1 19 rfl rfl
theorem dX12_apart_44 : decode cX12_apart 44 = .ok (.iinc 1 1, 3) := dq132 bw_cX12_apart_1 20 rfl rfl rfl
theorem dX12_apart_47 : decode cX12_apart 47 = .ok (.goto (-19), 3) := dq167 bw_cX12_apart_1 23 rfl rfl rfl
theorem bw_cX12_apart_2 : dq_w cX12_apart 48 [255, 237, 16, 254, 172] = true := by decide +kernel
theorem dX12_apart_50 : decode cX12_apart 50 = .ok (.bipush (-2), 2) := dq16 bw_cX12_apart_2 2 rfl rfl rfl
theorem dX12_apart_52 : decode cX12_apart 52 = .ok (.ireturn, 1) := dq172 bw_cX12_apart_2 4 rfl rfl
theorem bw_cX12_sleeps_0 : dq_w cX12_sleeps 0 [16, 60, 42, 180, 0, 148, 184, 0, 129, 4, 96, 104, 60, 27, 42, 180, 0, 169, 164, 0, 20, 42, 42, 180, 0, 148, 42] = true := by decide +kernel
theorem dX12_sleeps_0 : decode cX12_sleeps 0 = .ok (.bipush 60, 2) := dq16 bw_cX12_sleeps_0 0 rfl rfl rfl
theorem dX12_sleeps_2 : decode cX12_sleeps 2 = .ok (.aload_n 0, 1) := dq42 bw_cX12_sleeps_0 2 rfl rfl
theorem dX12_sleeps_3 : decode cX12_sleeps 3 = .ok (.getfield 148, 3) := dq180 bw_cX12_sleeps_0 3 rfl rfl rfl
theorem dX12_sleeps_6 : decode cX12_sleeps 6 = .ok (.invokestatic 129, 3) := dq184 bw_cX12_sleeps_0 6 rfl rfl rfl
theorem dX12_sleeps_9 : decode cX12_sleeps 9 = .ok (.iconst 1, 1) := dq4 bw_cX12_sleeps_0 9 rfl rfl
theorem dX12_sleeps_10 : decode cX12_sleeps 10 = .ok (.iadd, 1) := dq96 bw_cX12_sleeps_0 10 rfl rfl
theorem dX12_sleeps_11 : decode cX12_sleeps 11 = .ok (.imul, 1) := dq104 bw_cX12_sleeps_0 11 rfl rfl
theorem dX12_sleeps_12 : decode cX12_sleeps 12 = .ok (.istore_n 1, 1) := dq60 bw_cX12_sleeps_0 12 rfl rfl
theorem dX12_sleeps_13 : decode cX12_sleeps 13 = .ok (.iload_n 1, 1) := dq27 bw_cX12_sleeps_0 13 rfl rfl
theorem dX12_sleeps_14 : decode cX12_sleeps 14 = .ok (.aload_n 0, 1) := dq42 bw_cX12_sleeps_0 14 rfl rfl
theorem dX12_sleeps_15 : decode cX12_sleeps 15 = .ok (.getfield 169, 3) := dq180 bw_cX12_sleeps_0 15 rfl rfl rfl
theorem dX12_sleeps_18 : decode cX12_sleeps 18 = .ok (.if_icmp .le 20, 3) := dq164 bw_cX12_sleeps_0 18 rfl rfl rfl
theorem dX12_sleeps_21 : decode cX12_sleeps 21 = .ok (.aload_n 0, 1) := dq42 bw_cX12_sleeps_0 21 rfl rfl
theorem dX12_sleeps_22 : decode cX12_sleeps 22 = .ok (.aload_n 0, 1) := dq42 bw_cX12_sleeps_0 22 rfl rfl
theorem dX12_sleeps_23 : decode cX12_sleeps 23 = .ok (.getfield 148, 3) := dq180 bw_cX12_sleeps_0 23 rfl rfl rfl
theorem bw_cX12_sleeps_1 : dq_w cX12_sleeps 24 [0, 148, 42, 180, 0, 169, 184, 0, 174, 181, 0, 148, 3, 172, 42, 27, 181, 0, 148, 4, 172] = true := by decide +kernel
theorem dX12_sleeps_26 : decode cX12_sleeps 26 = .ok (.aload_n 0, 1) := dq42 bw_cX12_sleeps_1 2 rfl rfl
theorem dX12_sleeps_27 : decode cX12_sleeps 27 = .ok (.getfield 169, 3) := dq180 bw_cX12_sleeps_1 3 rfl rfl rfl
theorem dX12_sleeps_30 : decode cX12_sleeps 30 = .ok (.invokestatic 174, 3) := dq184 bw_cX12_sleeps_1 6 rfl rfl rfl
theorem dX12_sleeps_33 : decode cX12_sleeps 33 = .ok (.putfield 148, 3) := dq181 bw_cX12_sleeps_1 9 rfl rfl rfl
theorem dX12_sleeps_36 : decode cX12_sleeps 36 = .ok (.iconst 0, 1) := dq3 bw_cX12_sleeps_1 12 rfl rfl
theorem dX12_sleeps_37 : decode cX12_sleeps 37 = .ok (.ireturn, 1) := dq172 bw_cX12_sleeps_1 13 rfl rfl
theorem dX12_sleeps_38 : decode cX12_sleeps 38 = .ok (.aload_n 0, 1) := dq42 bw_cX12_sleeps_1 14 rfl rfl
theorem dX12_sleeps_39 : decode cX12_sleeps 39 = .ok (.iload_n 1, 1) := dq27 bw_cX12_sleeps_1 15 rfl rfl
theorem dX12_sleeps_40 : decode cX12_sleeps 40 = .ok (.putfield 148, 3) := dq181 bw_cX12_sleeps_1 16 rfl rfl rfl
theorem dX12_sleeps_43 : decode cX12_sleeps 43 = .ok (.iconst 1, 1) := dq4 bw_cX12_sleeps_1 19 rfl rfl
theorem dX12_sleeps_44 : decode cX12_sleeps 44 = .ok (.ireturn, 1) := dq172 bw_cX12_sleeps_1 20 rfl rfl
theorem bw_cX12_season_0 : dq_w cX12_season 0 [42, 3, 181, 0, 3, 27, 133, 9, 20, 1, 2, 184, 0, 17, 154, 0, 5, 2, 172, 42, 3, 181, 0, 126, 3, 61, 3] = true := by decide +kernel
theorem dX12_season_0 : decode cX12_season 0 = .ok (.aload_n 0, 1) := dq42 bw_cX12_season_0 0 rfl rfl
theorem dX12_season_1 : decode cX12_season 1 = .ok (.iconst 0, 1) := dq3 bw_cX12_season_0 1 rfl rfl
theorem dX12_season_2 : decode cX12_season 2 = .ok (.putfield 3, 3) := dq181 bw_cX12_season_0 2 rfl rfl rfl
theorem dX12_season_5 : decode cX12_season 5 = .ok (.iload_n 1, 1) := dq27 bw_cX12_season_0 5 rfl rfl
theorem dX12_season_6 : decode cX12_season 6 = .ok (.i2l, 1) := dq133 bw_cX12_season_0 6 rfl rfl
theorem dX12_season_7 : decode cX12_season 7 = .ok (.lconst 0, 1) := dq9 bw_cX12_season_0 7 rfl rfl
theorem dX12_season_8 : decode cX12_season 8 = .ok (.ldc2_w 258, 3) := dq20 bw_cX12_season_0 8 rfl rfl rfl
theorem dX12_season_11 : decode cX12_season 11 = .ok (.invokestatic 17, 3) := dq184 bw_cX12_season_0 11 rfl rfl rfl
theorem dX12_season_14 : decode cX12_season 14 = .ok (.ifCond .ne 5, 3) := dq154 bw_cX12_season_0 14 rfl rfl rfl
theorem dX12_season_17 : decode cX12_season 17 = .ok (.iconst (-1), 1) := dq2 bw_cX12_season_0 17 rfl rfl
theorem dX12_season_18 : decode cX12_season 18 = .ok (.ireturn, 1) := dq172 bw_cX12_season_0 18 rfl rfl
theorem dX12_season_19 : decode cX12_season 19 = .ok (.aload_n 0, 1) := dq42 bw_cX12_season_0 19 rfl rfl
theorem dX12_season_20 : decode cX12_season 20 = .ok (.iconst 0, 1) := dq3 bw_cX12_season_0 20 rfl rfl
theorem dX12_season_21 : decode cX12_season 21 = .ok (.putfield 126, 3) := dq181 bw_cX12_season_0 21 rfl rfl rfl
theorem bw_cX12_season_1 : dq_w cX12_season 24 [3, 61, 3, 62, 27, 158, 0, 24, 42, 180, 0, 148, 184, 0, 183, 154, 0, 10, 42, 182, 1, 4, 153, 0, 7, 4, 167] = true := by decide +kernel
theorem dX12_season_24 : decode cX12_season 24 = .ok (.iconst 0, 1) := dq3 bw_cX12_season_1 0 rfl rfl
theorem dX12_season_25 : decode cX12_season 25 = .ok (.istore_n 2, 1) := dq61 bw_cX12_season_1 1 rfl rfl
theorem dX12_season_26 : decode cX12_season 26 = .ok (.iconst 0, 1) := dq3 bw_cX12_season_1 2 rfl rfl
theorem dX12_season_27 : decode cX12_season 27 = .ok (.istore_n 3, 1) := dq62 bw_cX12_season_1 3 rfl rfl
theorem dX12_season_28 : decode cX12_season 28 = .ok (.iload_n 1, 1) := dq27 bw_cX12_season_1 4 rfl rfl
theorem dX12_season_29 : decode cX12_season 29 = .ok (.ifCond .le 24, 3) := dq158 bw_cX12_season_1 5 rfl rfl rfl
theorem dX12_season_32 : decode cX12_season 32 = .ok (.aload_n 0, 1) := dq42 bw_cX12_season_1 8 rfl rfl
theorem dX12_season_33 : decode cX12_season 33 = .ok (.getfield 148, 3) := dq180 bw_cX12_season_1 9 rfl rfl rfl
theorem dX12_season_36 : decode cX12_season 36 = .ok (.invokestatic 183, 3) := dq184 bw_cX12_season_1 12 rfl rfl rfl
theorem dX12_season_39 : decode cX12_season 39 = .ok (.ifCond .ne 10, 3) := dq154 bw_cX12_season_1 15 rfl rfl rfl
theorem dX12_season_42 : decode cX12_season 42 = .ok (.aload_n 0, 1) := dq42 bw_cX12_season_1 18 rfl rfl
theorem dX12_season_43 : decode cX12_season 43 = .ok (.invokevirtual 260, 3) := dq182 bw_cX12_season_1 19 rfl rfl rfl
theorem dX12_season_46 : decode cX12_season 46 = .ok (.ifCond .eq 7, 3) := dq153 bw_cX12_season_1 22 rfl rfl rfl
theorem bw_cX12_season_2 : dq_w cX12_season 48 [7, 4, 167, 0, 4, 3, 54, 4, 3, 54, 5, 21, 5, 27, 162, 0, 128, 21, 4, 153, 0, 123, 42, 180, 0, 148, 184] = true := by decide +kernel
theorem dX12_season_49 : decode cX12_season 49 = .ok (.iconst 1, 1) := dq4 bw_cX12_season_2 1 rfl rfl
theorem dX12_season_50 : decode cX12_season 50 = .ok (.goto 4, 3) := dq167 bw_cX12_season_2 2 rfl rfl rfl
theorem dX12_season_53 : decode cX12_season 53 = .ok (.iconst 0, 1) := dq3 bw_cX12_season_2 5 rfl rfl
theorem dX12_season_54 : decode cX12_season 54 = .ok (.istore 4, 2) := dq54 bw_cX12_season_2 6 rfl rfl
theorem dX12_season_56 : decode cX12_season 56 = .ok (.iconst 0, 1) := dq3 bw_cX12_season_2 8 rfl rfl
theorem dX12_season_57 : decode cX12_season 57 = .ok (.istore 5, 2) := dq54 bw_cX12_season_2 9 rfl rfl
theorem dX12_season_59 : decode cX12_season 59 = .ok (.iload 5, 2) := dq21 bw_cX12_season_2 11 rfl rfl
theorem dX12_season_61 : decode cX12_season 61 = .ok (.iload_n 1, 1) := dq27 bw_cX12_season_2 13 rfl rfl
theorem dX12_season_62 : decode cX12_season 62 = .ok (.if_icmp .ge 128, 3) := dq162 bw_cX12_season_2 14 rfl rfl rfl
theorem dX12_season_65 : decode cX12_season 65 = .ok (.iload 4, 2) := dq21 bw_cX12_season_2 17 rfl rfl
theorem dX12_season_67 : decode cX12_season 67 = .ok (.ifCond .eq 123, 3) := dq153 bw_cX12_season_2 19 rfl rfl rfl
theorem dX12_season_70 : decode cX12_season 70 = .ok (.aload_n 0, 1) := dq42 bw_cX12_season_2 22 rfl rfl
theorem dX12_season_71 : decode cX12_season 71 = .ok (.getfield 148, 3) := dq180 bw_cX12_season_2 23 rfl rfl rfl
theorem bw_cX12_season_3 : dq_w cX12_season 72 [0, 148, 184, 0, 183, 153, 0, 101, 42, 182, 0, 214, 153, 0, 94, 42, 182, 0, 214, 54, 6, 2, 54, 7, 3, 54, 8] = true := by decide +kernel
theorem dX12_season_74 : decode cX12_season 74 = .ok (.invokestatic 183, 3) := dq184 bw_cX12_season_3 2 rfl rfl rfl
theorem dX12_season_77 : decode cX12_season 77 = .ok (.ifCond .eq 101, 3) := dq153 bw_cX12_season_3 5 rfl rfl rfl
theorem dX12_season_80 : decode cX12_season 80 = .ok (.aload_n 0, 1) := dq42 bw_cX12_season_3 8 rfl rfl
theorem dX12_season_81 : decode cX12_season 81 = .ok (.invokevirtual 214, 3) := dq182 bw_cX12_season_3 9 rfl rfl rfl
theorem dX12_season_84 : decode cX12_season 84 = .ok (.ifCond .eq 94, 3) := dq153 bw_cX12_season_3 12 rfl rfl rfl
theorem dX12_season_87 : decode cX12_season 87 = .ok (.aload_n 0, 1) := dq42 bw_cX12_season_3 15 rfl rfl
theorem dX12_season_88 : decode cX12_season 88 = .ok (.invokevirtual 214, 3) := dq182 bw_cX12_season_3 16 rfl rfl rfl
theorem dX12_season_91 : decode cX12_season 91 = .ok (.istore 6, 2) := dq54 bw_cX12_season_3 19 rfl rfl
theorem dX12_season_93 : decode cX12_season 93 = .ok (.iconst (-1), 1) := dq2 bw_cX12_season_3 21 rfl rfl
theorem dX12_season_94 : decode cX12_season 94 = .ok (.istore 7, 2) := dq54 bw_cX12_season_3 22 rfl rfl
theorem bw_cX12_season_4 : dq_w cX12_season 96 [3, 54, 8, 21, 8, 42, 180, 0, 21, 162, 0, 50, 21, 6, 21, 8, 184, 0, 144, 153, 0, 30, 21, 7, 155, 0, 20] = true := by decide +kernel
theorem dX12_season_96 : decode cX12_season 96 = .ok (.iconst 0, 1) := dq3 bw_cX12_season_4 0 rfl rfl
theorem dX12_season_97 : decode cX12_season 97 = .ok (.istore 8, 2) := dq54 bw_cX12_season_4 1 rfl rfl
theorem dX12_season_99 : decode cX12_season 99 = .ok (.iload 8, 2) := dq21 bw_cX12_season_4 3 rfl rfl
theorem dX12_season_101 : decode cX12_season 101 = .ok (.aload_n 0, 1) := dq42 bw_cX12_season_4 5 rfl rfl
theorem dX12_season_102 : decode cX12_season 102 = .ok (.getfield 21, 3) := dq180 bw_cX12_season_4 6 rfl rfl rfl
theorem dX12_season_105 : decode cX12_season 105 = .ok (.if_icmp .ge 50, 3) := dq162 bw_cX12_season_4 9 rfl rfl rfl
theorem dX12_season_108 : decode cX12_season 108 = .ok (.iload 6, 2) := dq21 bw_cX12_season_4 12 rfl rfl
theorem dX12_season_110 : decode cX12_season 110 = .ok (.iload 8, 2) := dq21 bw_cX12_season_4 14 rfl rfl
theorem dX12_season_112 : decode cX12_season 112 = .ok (.invokestatic 144, 3) := dq184 bw_cX12_season_4 16 rfl rfl rfl
theorem dX12_season_115 : decode cX12_season 115 = .ok (.ifCond .eq 30, 3) := dq153 bw_cX12_season_4 19 rfl rfl rfl
theorem dX12_season_118 : decode cX12_season 118 = .ok (.iload 7, 2) := dq21 bw_cX12_season_4 22 rfl rfl
theorem bw_cX12_season_5 : dq_w cX12_season 120 [155, 0, 20, 42, 180, 0, 95, 21, 8, 46, 42, 180, 0, 95, 21, 7, 46, 164, 0, 8, 21, 8, 167, 0, 5, 21, 7] = true := by decide +kernel
theorem dX12_season_120 : decode cX12_season 120 = .ok (.ifCond .lt 20, 3) := dq155 bw_cX12_season_5 0 rfl rfl rfl
theorem dX12_season_123 : decode cX12_season 123 = .ok (.aload_n 0, 1) := dq42 bw_cX12_season_5 3 rfl rfl
theorem dX12_season_124 : decode cX12_season 124 = .ok (.getfield 95, 3) := dq180 bw_cX12_season_5 4 rfl rfl rfl
theorem dX12_season_127 : decode cX12_season 127 = .ok (.iload 8, 2) := dq21 bw_cX12_season_5 7 rfl rfl
theorem dX12_season_129 : decode cX12_season 129 = .ok (.iaload, 1) := dq46 bw_cX12_season_5 9 rfl rfl
theorem dX12_season_130 : decode cX12_season 130 = .ok (.aload_n 0, 1) := dq42 bw_cX12_season_5 10 rfl rfl
theorem dX12_season_131 : decode cX12_season 131 = .ok (.getfield 95, 3) := dq180 bw_cX12_season_5 11 rfl rfl rfl
theorem dX12_season_134 : decode cX12_season 134 = .ok (.iload 7, 2) := dq21 bw_cX12_season_5 14 rfl rfl
theorem dX12_season_136 : decode cX12_season 136 = .ok (.iaload, 1) := dq46 bw_cX12_season_5 16 rfl rfl
theorem dX12_season_137 : decode cX12_season 137 = .ok (.if_icmp .le 8, 3) := dq164 bw_cX12_season_5 17 rfl rfl rfl
theorem dX12_season_140 : decode cX12_season 140 = .ok (.iload 8, 2) := dq21 bw_cX12_season_5 20 rfl rfl
theorem dX12_season_142 : decode cX12_season 142 = .ok (.goto 5, 3) := dq167 bw_cX12_season_5 22 rfl rfl rfl
theorem bw_cX12_season_6 : dq_w cX12_season 144 [5, 21, 7, 54, 7, 132, 8, 1, 167, 255, 203, 42, 21, 7, 182, 0, 211, 87, 132, 2, 1, 29, 42, 180, 0, 95, 21] = true := by decide +kernel
theorem dX12_season_145 : decode cX12_season 145 = .ok (.iload 7, 2) := dq21 bw_cX12_season_6 1 rfl rfl
theorem dX12_season_147 : decode cX12_season 147 = .ok (.istore 7, 2) := dq54 bw_cX12_season_6 3 rfl rfl
theorem dX12_season_149 : decode cX12_season 149 = .ok (.iinc 8 1, 3) := dq132 bw_cX12_season_6 5 rfl rfl rfl
theorem dX12_season_152 : decode cX12_season 152 = .ok (.goto (-53), 3) := dq167 bw_cX12_season_6 8 rfl rfl rfl
theorem dX12_season_155 : decode cX12_season 155 = .ok (.aload_n 0, 1) := dq42 bw_cX12_season_6 11 rfl rfl
theorem dX12_season_156 : decode cX12_season 156 = .ok (.iload 7, 2) := dq21 bw_cX12_season_6 12 rfl rfl
theorem dX12_season_158 : decode cX12_season 158 = .ok (.invokevirtual 211, 3) := dq182 bw_cX12_season_6 14 rfl rfl rfl
theorem dX12_season_161 : decode cX12_season 161 = .ok (.pop, 1) := dq87 bw_cX12_season_6 17 rfl rfl
theorem dX12_season_162 : decode cX12_season 162 = .ok (.iinc 2 1, 3) := dq132 bw_cX12_season_6 18 rfl rfl rfl
theorem dX12_season_165 : decode cX12_season 165 = .ok (.iload_n 3, 1) := dq29 bw_cX12_season_6 21 rfl rfl
theorem dX12_season_166 : decode cX12_season 166 = .ok (.aload_n 0, 1) := dq42 bw_cX12_season_6 22 rfl rfl
theorem dX12_season_167 : decode cX12_season 167 = .ok (.getfield 95, 3) := dq180 bw_cX12_season_6 23 rfl rfl rfl
theorem bw_cX12_season_7 : dq_w cX12_season 168 [0, 95, 21, 7, 46, 96, 62, 167, 255, 151, 42, 182, 1, 4, 54, 4, 132, 5, 1, 167, 255, 128, 42, 3, 181, 0, 11] = true := by decide +kernel
theorem dX12_season_170 : decode cX12_season 170 = .ok (.iload 7, 2) := dq21 bw_cX12_season_7 2 rfl rfl
theorem dX12_season_172 : decode cX12_season 172 = .ok (.iaload, 1) := dq46 bw_cX12_season_7 4 rfl rfl
theorem dX12_season_173 : decode cX12_season 173 = .ok (.iadd, 1) := dq96 bw_cX12_season_7 5 rfl rfl
theorem dX12_season_174 : decode cX12_season 174 = .ok (.istore_n 3, 1) := dq62 bw_cX12_season_7 6 rfl rfl
theorem dX12_season_175 : decode cX12_season 175 = .ok (.goto (-105), 3) := dq167 bw_cX12_season_7 7 rfl rfl rfl
theorem dX12_season_178 : decode cX12_season 178 = .ok (.aload_n 0, 1) := dq42 bw_cX12_season_7 10 rfl rfl
theorem dX12_season_179 : decode cX12_season 179 = .ok (.invokevirtual 260, 3) := dq182 bw_cX12_season_7 11 rfl rfl rfl
theorem dX12_season_182 : decode cX12_season 182 = .ok (.istore 4, 2) := dq54 bw_cX12_season_7 14 rfl rfl
theorem dX12_season_184 : decode cX12_season 184 = .ok (.iinc 5 1, 3) := dq132 bw_cX12_season_7 16 rfl rfl rfl
theorem dX12_season_187 : decode cX12_season 187 = .ok (.goto (-128), 3) := dq167 bw_cX12_season_7 19 rfl rfl rfl
theorem dX12_season_190 : decode cX12_season 190 = .ok (.aload_n 0, 1) := dq42 bw_cX12_season_7 22 rfl rfl
theorem dX12_season_191 : decode cX12_season 191 = .ok (.iconst 0, 1) := dq3 bw_cX12_season_7 23 rfl rfl
theorem bw_cX12_season_8 : dq_w cX12_season 192 [181, 0, 11, 42, 29, 182, 0, 229, 42, 42, 180, 0, 14, 154, 0, 7, 2, 167, 0, 7, 42, 180, 0, 177, 182, 0, 229] = true := by decide +kernel
theorem dX12_season_192 : decode cX12_season 192 = .ok (.putfield 11, 3) := dq181 bw_cX12_season_8 0 rfl rfl rfl
theorem dX12_season_195 : decode cX12_season 195 = .ok (.aload_n 0, 1) := dq42 bw_cX12_season_8 3 rfl rfl
theorem dX12_season_196 : decode cX12_season 196 = .ok (.iload_n 3, 1) := dq29 bw_cX12_season_8 4 rfl rfl
theorem dX12_season_197 : decode cX12_season 197 = .ok (.invokevirtual 229, 3) := dq182 bw_cX12_season_8 5 rfl rfl rfl
theorem dX12_season_200 : decode cX12_season 200 = .ok (.aload_n 0, 1) := dq42 bw_cX12_season_8 8 rfl rfl
theorem dX12_season_201 : decode cX12_season 201 = .ok (.aload_n 0, 1) := dq42 bw_cX12_season_8 9 rfl rfl
theorem dX12_season_202 : decode cX12_season 202 = .ok (.getfield 14, 3) := dq180 bw_cX12_season_8 10 rfl rfl rfl
theorem dX12_season_205 : decode cX12_season 205 = .ok (.ifCond .ne 7, 3) := dq154 bw_cX12_season_8 13 rfl rfl rfl
theorem dX12_season_208 : decode cX12_season 208 = .ok (.iconst (-1), 1) := dq2 bw_cX12_season_8 16 rfl rfl
theorem dX12_season_209 : decode cX12_season 209 = .ok (.goto 7, 3) := dq167 bw_cX12_season_8 17 rfl rfl rfl
theorem dX12_season_212 : decode cX12_season 212 = .ok (.aload_n 0, 1) := dq42 bw_cX12_season_8 20 rfl rfl
theorem dX12_season_213 : decode cX12_season 213 = .ok (.getfield 177, 3) := dq180 bw_cX12_season_8 21 rfl rfl rfl
theorem bw_cX12_season_9 : dq_w cX12_season 216 [182, 0, 229, 28, 172] = true := by decide +kernel
theorem dX12_season_216 : decode cX12_season 216 = .ok (.invokevirtual 229, 3) := dq182 bw_cX12_season_9 0 rfl rfl rfl
theorem dX12_season_219 : decode cX12_season 219 = .ok (.iload_n 2, 1) := dq28 bw_cX12_season_9 3 rfl rfl
theorem dX12_season_220 : decode cX12_season 220 = .ok (.ireturn, 1) := dq172 bw_cX12_season_9 4 rfl rfl
theorem bw_cX12_allHedges_0 : dq_w cX12_allHedges 0 [4, 42, 180, 0, 21, 120, 4, 100, 172] = true := by decide +kernel
theorem dX12_allHedges_0 : decode cX12_allHedges 0 = .ok (.iconst 1, 1) := dq4 bw_cX12_allHedges_0 0 rfl rfl
theorem dX12_allHedges_1 : decode cX12_allHedges 1 = .ok (.aload_n 0, 1) := dq42 bw_cX12_allHedges_0 1 rfl rfl
theorem dX12_allHedges_2 : decode cX12_allHedges 2 = .ok (.getfield 21, 3) := dq180 bw_cX12_allHedges_0 2 rfl rfl rfl
theorem dX12_allHedges_5 : decode cX12_allHedges 5 = .ok (.ishl, 1) := dq120 bw_cX12_allHedges_0 5 rfl rfl
theorem dX12_allHedges_6 : decode cX12_allHedges 6 = .ok (.iconst 1, 1) := dq4 bw_cX12_allHedges_0 6 rfl rfl
theorem dX12_allHedges_7 : decode cX12_allHedges 7 = .ok (.isub, 1) := dq100 bw_cX12_allHedges_0 7 rfl rfl
theorem dX12_allHedges_8 : decode cX12_allHedges 8 = .ok (.ireturn, 1) := dq172 bw_cX12_allHedges_0 8 rfl rfl
theorem bw_cX12_oddOf_0 : dq_w cX12_oddOf 0 [3, 61, 3, 62, 29, 42, 180, 0, 21, 162, 0, 41, 28, 27, 29, 184, 0, 144, 153, 0, 23, 4, 42, 180, 0, 74, 29] = true := by decide +kernel
theorem dX12_oddOf_0 : decode cX12_oddOf 0 = .ok (.iconst 0, 1) := dq3 bw_cX12_oddOf_0 0 rfl rfl
theorem dX12_oddOf_1 : decode cX12_oddOf 1 = .ok (.istore_n 2, 1) := dq61 bw_cX12_oddOf_0 1 rfl rfl
theorem dX12_oddOf_2 : decode cX12_oddOf 2 = .ok (.iconst 0, 1) := dq3 bw_cX12_oddOf_0 2 rfl rfl
theorem dX12_oddOf_3 : decode cX12_oddOf 3 = .ok (.istore_n 3, 1) := dq62 bw_cX12_oddOf_0 3 rfl rfl
theorem dX12_oddOf_4 : decode cX12_oddOf 4 = .ok (.iload_n 3, 1) := dq29 bw_cX12_oddOf_0 4 rfl rfl
theorem dX12_oddOf_5 : decode cX12_oddOf 5 = .ok (.aload_n 0, 1) := dq42 bw_cX12_oddOf_0 5 rfl rfl
theorem dX12_oddOf_6 : decode cX12_oddOf 6 = .ok (.getfield 21, 3) := dq180 bw_cX12_oddOf_0 6 rfl rfl rfl
theorem dX12_oddOf_9 : decode cX12_oddOf 9 = .ok (.if_icmp .ge 41, 3) := dq162 bw_cX12_oddOf_0 9 rfl rfl rfl
theorem dX12_oddOf_12 : decode cX12_oddOf 12 = .ok (.iload_n 2, 1) := dq28 bw_cX12_oddOf_0 12 rfl rfl
theorem dX12_oddOf_13 : decode cX12_oddOf 13 = .ok (.iload_n 1, 1) := dq27 bw_cX12_oddOf_0 13 rfl rfl
theorem dX12_oddOf_14 : decode cX12_oddOf 14 = .ok (.iload_n 3, 1) := dq29 bw_cX12_oddOf_0 14 rfl rfl
theorem dX12_oddOf_15 : decode cX12_oddOf 15 = .ok (.invokestatic 144, 3) := dq184 bw_cX12_oddOf_0 15 rfl rfl rfl
theorem dX12_oddOf_18 : decode cX12_oddOf 18 = .ok (.ifCond .eq 23, 3) := dq153 bw_cX12_oddOf_0 18 rfl rfl rfl
theorem dX12_oddOf_21 : decode cX12_oddOf 21 = .ok (.iconst 1, 1) := dq4 bw_cX12_oddOf_0 21 rfl rfl
theorem dX12_oddOf_22 : decode cX12_oddOf 22 = .ok (.aload_n 0, 1) := dq42 bw_cX12_oddOf_0 22 rfl rfl
theorem dX12_oddOf_23 : decode cX12_oddOf 23 = .ok (.getfield 74, 3) := dq180 bw_cX12_oddOf_0 23 rfl rfl rfl
theorem bw_cX12_oddOf_1 : dq_w cX12_oddOf 24 [0, 74, 29, 46, 120, 4, 42, 180, 0, 80, 29, 46, 120, 130, 167, 0, 4, 3, 130, 61, 132, 3, 1, 167, 255, 213, 28] = true := by decide +kernel
theorem dX12_oddOf_26 : decode cX12_oddOf 26 = .ok (.iload_n 3, 1) := dq29 bw_cX12_oddOf_1 2 rfl rfl
theorem dX12_oddOf_27 : decode cX12_oddOf 27 = .ok (.iaload, 1) := dq46 bw_cX12_oddOf_1 3 rfl rfl
theorem dX12_oddOf_28 : decode cX12_oddOf 28 = .ok (.ishl, 1) := dq120 bw_cX12_oddOf_1 4 rfl rfl
theorem dX12_oddOf_29 : decode cX12_oddOf 29 = .ok (.iconst 1, 1) := dq4 bw_cX12_oddOf_1 5 rfl rfl
theorem dX12_oddOf_30 : decode cX12_oddOf 30 = .ok (.aload_n 0, 1) := dq42 bw_cX12_oddOf_1 6 rfl rfl
theorem dX12_oddOf_31 : decode cX12_oddOf 31 = .ok (.getfield 80, 3) := dq180 bw_cX12_oddOf_1 7 rfl rfl rfl
theorem dX12_oddOf_34 : decode cX12_oddOf 34 = .ok (.iload_n 3, 1) := dq29 bw_cX12_oddOf_1 10 rfl rfl
theorem dX12_oddOf_35 : decode cX12_oddOf 35 = .ok (.iaload, 1) := dq46 bw_cX12_oddOf_1 11 rfl rfl
theorem dX12_oddOf_36 : decode cX12_oddOf 36 = .ok (.ishl, 1) := dq120 bw_cX12_oddOf_1 12 rfl rfl
theorem dX12_oddOf_37 : decode cX12_oddOf 37 = .ok (.ixor, 1) := dq130 bw_cX12_oddOf_1 13 rfl rfl
theorem dX12_oddOf_38 : decode cX12_oddOf 38 = .ok (.goto 4, 3) := dq167 bw_cX12_oddOf_1 14 rfl rfl rfl
theorem dX12_oddOf_41 : decode cX12_oddOf 41 = .ok (.iconst 0, 1) := dq3 bw_cX12_oddOf_1 17 rfl rfl
theorem dX12_oddOf_42 : decode cX12_oddOf 42 = .ok (.ixor, 1) := dq130 bw_cX12_oddOf_1 18 rfl rfl
theorem dX12_oddOf_43 : decode cX12_oddOf 43 = .ok (.istore_n 2, 1) := dq61 bw_cX12_oddOf_1 19 rfl rfl
theorem dX12_oddOf_44 : decode cX12_oddOf 44 = .ok (.iinc 3 1, 3) := dq132 bw_cX12_oddOf_1 20 rfl rfl rfl
theorem dX12_oddOf_47 : decode cX12_oddOf 47 = .ok (.goto (-43), 3) := dq167 bw_cX12_oddOf_1 23 rfl rfl rfl
theorem bw_cX12_oddOf_2 : dq_w cX12_oddOf 48 [255, 213, 28, 172] = true := by decide +kernel
theorem dX12_oddOf_50 : decode cX12_oddOf 50 = .ok (.iload_n 2, 1) := dq28 bw_cX12_oddOf_2 2 rfl rfl
theorem dX12_oddOf_51 : decode cX12_oddOf 51 = .ok (.ireturn, 1) := dq172 bw_cX12_oddOf_2 3 rfl rfl
theorem bw_cX12_odd_0 : dq_w cX12_odd 0 [42, 3, 181, 0, 3, 42, 42, 182, 1, 10, 182, 1, 13, 60, 42, 3, 181, 0, 11, 42, 27, 182, 0, 229, 27, 184, 1] = true := by decide +kernel
theorem dX12_odd_0 : decode cX12_odd 0 = .ok (.aload_n 0, 1) := dq42 bw_cX12_odd_0 0 rfl rfl
theorem dX12_odd_1 : decode cX12_odd 1 = .ok (.iconst 0, 1) := dq3 bw_cX12_odd_0 1 rfl rfl
theorem dX12_odd_2 : decode cX12_odd 2 = .ok (.putfield 3, 3) := dq181 bw_cX12_odd_0 2 rfl rfl rfl
theorem dX12_odd_5 : decode cX12_odd 5 = .ok (.aload_n 0, 1) := dq42 bw_cX12_odd_0 5 rfl rfl
theorem dX12_odd_6 : decode cX12_odd 6 = .ok (.aload_n 0, 1) := dq42 bw_cX12_odd_0 6 rfl rfl
theorem dX12_odd_7 : decode cX12_odd 7 = .ok (.invokevirtual 266, 3) := dq182 bw_cX12_odd_0 7 rfl rfl rfl
theorem dX12_odd_10 : decode cX12_odd 10 = .ok (.invokevirtual 269, 3) := dq182 bw_cX12_odd_0 10 rfl rfl rfl
theorem dX12_odd_13 : decode cX12_odd 13 = .ok (.istore_n 1, 1) := dq60 bw_cX12_odd_0 13 rfl rfl
theorem dX12_odd_14 : decode cX12_odd 14 = .ok (.aload_n 0, 1) := dq42 bw_cX12_odd_0 14 rfl rfl
theorem dX12_odd_15 : decode cX12_odd 15 = .ok (.iconst 0, 1) := dq3 bw_cX12_odd_0 15 rfl rfl
theorem dX12_odd_16 : decode cX12_odd 16 = .ok (.putfield 11, 3) := dq181 bw_cX12_odd_0 16 rfl rfl rfl
theorem dX12_odd_19 : decode cX12_odd 19 = .ok (.aload_n 0, 1) := dq42 bw_cX12_odd_0 19 rfl rfl
theorem dX12_odd_20 : decode cX12_odd 20 = .ok (.iload_n 1, 1) := dq27 bw_cX12_odd_0 20 rfl rfl
theorem dX12_odd_21 : decode cX12_odd 21 = .ok (.invokevirtual 229, 3) := dq182 bw_cX12_odd_0 21 rfl rfl rfl
theorem bw_cX12_odd_1 : dq_w cX12_odd 24 [27, 184, 1, 16, 172] = true := by decide +kernel
theorem dX12_odd_24 : decode cX12_odd 24 = .ok (.iload_n 1, 1) := dq27 bw_cX12_odd_1 0 rfl rfl
theorem dX12_odd_25 : decode cX12_odd 25 = .ok (.invokestatic 272, 3) := dq184 bw_cX12_odd_1 1 rfl rfl rfl
theorem dX12_odd_28 : decode cX12_odd 28 = .ok (.ireturn, 1) := dq172 bw_cX12_odd_1 4 rfl rfl
theorem bw_cX12_parts_0 : dq_w cX12_parts 0 [3, 61, 28, 42, 180, 0, 14, 162, 0, 16, 42, 180, 1, 7, 28, 28, 79, 132, 2, 1, 167, 255, 238, 3, 61, 28, 42] = true := by decide +kernel
theorem dX12_parts_0 : decode cX12_parts 0 = .ok (.iconst 0, 1) := dq3 bw_cX12_parts_0 0 rfl rfl
theorem dX12_parts_1 : decode cX12_parts 1 = .ok (.istore_n 2, 1) := dq61 bw_cX12_parts_0 1 rfl rfl
theorem dX12_parts_2 : decode cX12_parts 2 = .ok (.iload_n 2, 1) := dq28 bw_cX12_parts_0 2 rfl rfl
theorem dX12_parts_3 : decode cX12_parts 3 = .ok (.aload_n 0, 1) := dq42 bw_cX12_parts_0 3 rfl rfl
theorem dX12_parts_4 : decode cX12_parts 4 = .ok (.getfield 14, 3) := dq180 bw_cX12_parts_0 4 rfl rfl rfl
theorem dX12_parts_7 : decode cX12_parts 7 = .ok (.if_icmp .ge 16, 3) := dq162 bw_cX12_parts_0 7 rfl rfl rfl
theorem dX12_parts_10 : decode cX12_parts 10 = .ok (.aload_n 0, 1) := dq42 bw_cX12_parts_0 10 rfl rfl
theorem dX12_parts_11 : decode cX12_parts 11 = .ok (.getfield 263, 3) := dq180 bw_cX12_parts_0 11 rfl rfl rfl
theorem dX12_parts_14 : decode cX12_parts 14 = .ok (.iload_n 2, 1) := dq28 bw_cX12_parts_0 14 rfl rfl
theorem dX12_parts_15 : decode cX12_parts 15 = .ok (.iload_n 2, 1) := dq28 bw_cX12_parts_0 15 rfl rfl
theorem dX12_parts_16 : decode cX12_parts 16 = .ok (.iastore, 1) := dq79 bw_cX12_parts_0 16 rfl rfl
theorem dX12_parts_17 : decode cX12_parts 17 = .ok (.iinc 2 1, 3) := dq132 bw_cX12_parts_0 17 rfl rfl rfl
theorem dX12_parts_20 : decode cX12_parts 20 = .ok (.goto (-18), 3) := dq167 bw_cX12_parts_0 20 rfl rfl rfl
theorem dX12_parts_23 : decode cX12_parts 23 = .ok (.iconst 0, 1) := dq3 bw_cX12_parts_0 23 rfl rfl
theorem bw_cX12_parts_1 : dq_w cX12_parts 24 [61, 28, 42, 180, 0, 14, 162, 0, 86, 3, 62, 29, 42, 180, 0, 21, 162, 0, 70, 27, 29, 184, 0, 144, 153, 0, 56] = true := by decide +kernel
theorem dX12_parts_24 : decode cX12_parts 24 = .ok (.istore_n 2, 1) := dq61 bw_cX12_parts_1 0 rfl rfl
theorem dX12_parts_25 : decode cX12_parts 25 = .ok (.iload_n 2, 1) := dq28 bw_cX12_parts_1 1 rfl rfl
theorem dX12_parts_26 : decode cX12_parts 26 = .ok (.aload_n 0, 1) := dq42 bw_cX12_parts_1 2 rfl rfl
theorem dX12_parts_27 : decode cX12_parts 27 = .ok (.getfield 14, 3) := dq180 bw_cX12_parts_1 3 rfl rfl rfl
theorem dX12_parts_30 : decode cX12_parts 30 = .ok (.if_icmp .ge 86, 3) := dq162 bw_cX12_parts_1 6 rfl rfl rfl
theorem dX12_parts_33 : decode cX12_parts 33 = .ok (.iconst 0, 1) := dq3 bw_cX12_parts_1 9 rfl rfl
theorem dX12_parts_34 : decode cX12_parts 34 = .ok (.istore_n 3, 1) := dq62 bw_cX12_parts_1 10 rfl rfl
theorem dX12_parts_35 : decode cX12_parts 35 = .ok (.iload_n 3, 1) := dq29 bw_cX12_parts_1 11 rfl rfl
theorem dX12_parts_36 : decode cX12_parts 36 = .ok (.aload_n 0, 1) := dq42 bw_cX12_parts_1 12 rfl rfl
theorem dX12_parts_37 : decode cX12_parts 37 = .ok (.getfield 21, 3) := dq180 bw_cX12_parts_1 13 rfl rfl rfl
theorem dX12_parts_40 : decode cX12_parts 40 = .ok (.if_icmp .ge 70, 3) := dq162 bw_cX12_parts_1 16 rfl rfl rfl
theorem dX12_parts_43 : decode cX12_parts 43 = .ok (.iload_n 1, 1) := dq27 bw_cX12_parts_1 19 rfl rfl
theorem dX12_parts_44 : decode cX12_parts 44 = .ok (.iload_n 3, 1) := dq29 bw_cX12_parts_1 20 rfl rfl
theorem dX12_parts_45 : decode cX12_parts 45 = .ok (.invokestatic 144, 3) := dq184 bw_cX12_parts_1 21 rfl rfl rfl
theorem bw_cX12_parts_2 : dq_w cX12_parts 48 [153, 0, 56, 42, 180, 1, 7, 42, 180, 0, 74, 29, 46, 46, 42, 180, 1, 7, 42, 180, 0, 80, 29, 46, 46, 184, 0] = true := by decide +kernel
theorem dX12_parts_48 : decode cX12_parts 48 = .ok (.ifCond .eq 56, 3) := dq153 bw_cX12_parts_2 0 rfl rfl rfl
theorem dX12_parts_51 : decode cX12_parts 51 = .ok (.aload_n 0, 1) := dq42 bw_cX12_parts_2 3 rfl rfl
theorem dX12_parts_52 : decode cX12_parts 52 = .ok (.getfield 263, 3) := dq180 bw_cX12_parts_2 4 rfl rfl rfl
theorem dX12_parts_55 : decode cX12_parts 55 = .ok (.aload_n 0, 1) := dq42 bw_cX12_parts_2 7 rfl rfl
theorem dX12_parts_56 : decode cX12_parts 56 = .ok (.getfield 74, 3) := dq180 bw_cX12_parts_2 8 rfl rfl rfl
theorem dX12_parts_59 : decode cX12_parts 59 = .ok (.iload_n 3, 1) := dq29 bw_cX12_parts_2 11 rfl rfl
theorem dX12_parts_60 : decode cX12_parts 60 = .ok (.iaload, 1) := dq46 bw_cX12_parts_2 12 rfl rfl
theorem dX12_parts_61 : decode cX12_parts 61 = .ok (.iaload, 1) := dq46 bw_cX12_parts_2 13 rfl rfl
theorem dX12_parts_62 : decode cX12_parts 62 = .ok (.aload_n 0, 1) := dq42 bw_cX12_parts_2 14 rfl rfl
theorem dX12_parts_63 : decode cX12_parts 63 = .ok (.getfield 263, 3) := dq180 bw_cX12_parts_2 15 rfl rfl rfl
theorem dX12_parts_66 : decode cX12_parts 66 = .ok (.aload_n 0, 1) := dq42 bw_cX12_parts_2 18 rfl rfl
theorem dX12_parts_67 : decode cX12_parts 67 = .ok (.getfield 80, 3) := dq180 bw_cX12_parts_2 19 rfl rfl rfl
theorem dX12_parts_70 : decode cX12_parts 70 = .ok (.iload_n 3, 1) := dq29 bw_cX12_parts_2 22 rfl rfl
theorem dX12_parts_71 : decode cX12_parts 71 = .ok (.iaload, 1) := dq46 bw_cX12_parts_2 23 rfl rfl
theorem bw_cX12_parts_3 : dq_w cX12_parts 72 [46, 184, 0, 33, 54, 4, 42, 180, 1, 7, 42, 180, 0, 74, 29, 46, 21, 4, 79, 42, 180, 1, 7, 42, 180, 0, 80] = true := by decide +kernel
theorem dX12_parts_72 : decode cX12_parts 72 = .ok (.iaload, 1) := dq46 bw_cX12_parts_3 0 rfl rfl
theorem dX12_parts_73 : decode cX12_parts 73 = .ok (.invokestatic 33, 3) := dq184 bw_cX12_parts_3 1 rfl rfl rfl
theorem dX12_parts_76 : decode cX12_parts 76 = .ok (.istore 4, 2) := dq54 bw_cX12_parts_3 4 rfl rfl
theorem dX12_parts_78 : decode cX12_parts 78 = .ok (.aload_n 0, 1) := dq42 bw_cX12_parts_3 6 rfl rfl
theorem dX12_parts_79 : decode cX12_parts 79 = .ok (.getfield 263, 3) := dq180 bw_cX12_parts_3 7 rfl rfl rfl
theorem dX12_parts_82 : decode cX12_parts 82 = .ok (.aload_n 0, 1) := dq42 bw_cX12_parts_3 10 rfl rfl
theorem dX12_parts_83 : decode cX12_parts 83 = .ok (.getfield 74, 3) := dq180 bw_cX12_parts_3 11 rfl rfl rfl
theorem dX12_parts_86 : decode cX12_parts 86 = .ok (.iload_n 3, 1) := dq29 bw_cX12_parts_3 14 rfl rfl
theorem dX12_parts_87 : decode cX12_parts 87 = .ok (.iaload, 1) := dq46 bw_cX12_parts_3 15 rfl rfl
theorem dX12_parts_88 : decode cX12_parts 88 = .ok (.iload 4, 2) := dq21 bw_cX12_parts_3 16 rfl rfl
theorem dX12_parts_90 : decode cX12_parts 90 = .ok (.iastore, 1) := dq79 bw_cX12_parts_3 18 rfl rfl
theorem dX12_parts_91 : decode cX12_parts 91 = .ok (.aload_n 0, 1) := dq42 bw_cX12_parts_3 19 rfl rfl
theorem dX12_parts_92 : decode cX12_parts 92 = .ok (.getfield 263, 3) := dq180 bw_cX12_parts_3 20 rfl rfl rfl
theorem dX12_parts_95 : decode cX12_parts 95 = .ok (.aload_n 0, 1) := dq42 bw_cX12_parts_3 23 rfl rfl
theorem bw_cX12_parts_4 : dq_w cX12_parts 96 [180, 0, 80, 29, 46, 21, 4, 79, 132, 3, 1, 167, 255, 184, 132, 2, 1, 167, 255, 168, 177] = true := by decide +kernel
theorem dX12_parts_96 : decode cX12_parts 96 = .ok (.getfield 80, 3) := dq180 bw_cX12_parts_4 0 rfl rfl rfl
theorem dX12_parts_99 : decode cX12_parts 99 = .ok (.iload_n 3, 1) := dq29 bw_cX12_parts_4 3 rfl rfl
theorem dX12_parts_100 : decode cX12_parts 100 = .ok (.iaload, 1) := dq46 bw_cX12_parts_4 4 rfl rfl
theorem dX12_parts_101 : decode cX12_parts 101 = .ok (.iload 4, 2) := dq21 bw_cX12_parts_4 5 rfl rfl
theorem dX12_parts_103 : decode cX12_parts 103 = .ok (.iastore, 1) := dq79 bw_cX12_parts_4 7 rfl rfl
theorem dX12_parts_104 : decode cX12_parts 104 = .ok (.iinc 3 1, 3) := dq132 bw_cX12_parts_4 8 rfl rfl rfl
theorem dX12_parts_107 : decode cX12_parts 107 = .ok (.goto (-72), 3) := dq167 bw_cX12_parts_4 11 rfl rfl rfl
theorem dX12_parts_110 : decode cX12_parts 110 = .ok (.iinc 2 1, 3) := dq132 bw_cX12_parts_4 14 rfl rfl rfl
theorem dX12_parts_113 : decode cX12_parts 113 = .ok (.goto (-88), 3) := dq167 bw_cX12_parts_4 17 rfl rfl rfl
theorem dX12_parts_116 : decode cX12_parts 116 = .ok (.return_, 1) := dq177 bw_cX12_parts_4 20 rfl rfl
theorem bw_cX12_partOfHedges_0 : dq_w cX12_partOfHedges 0 [3, 62, 3, 54, 4, 21, 4, 42, 180, 0, 21, 162, 0, 45, 29, 28, 21, 4, 184, 0, 144, 153, 0, 26, 42, 180, 1] = true := by decide +kernel
theorem dX12_partOfHedges_0 : decode cX12_partOfHedges 0 = .ok (.iconst 0, 1) := dq3 bw_cX12_partOfHedges_0 0 rfl rfl
theorem dX12_partOfHedges_1 : decode cX12_partOfHedges 1 = .ok (.istore_n 3, 1) := dq62 bw_cX12_partOfHedges_0 1 rfl rfl
theorem dX12_partOfHedges_2 : decode cX12_partOfHedges 2 = .ok (.iconst 0, 1) := dq3 bw_cX12_partOfHedges_0 2 rfl rfl
theorem dX12_partOfHedges_3 : decode cX12_partOfHedges 3 = .ok (.istore 4, 2) := dq54 bw_cX12_partOfHedges_0 3 rfl rfl
theorem dX12_partOfHedges_5 : decode cX12_partOfHedges 5 = .ok (.iload 4, 2) := dq21 bw_cX12_partOfHedges_0 5 rfl rfl
theorem dX12_partOfHedges_7 : decode cX12_partOfHedges 7 = .ok (.aload_n 0, 1) := dq42 bw_cX12_partOfHedges_0 7 rfl rfl
theorem dX12_partOfHedges_8 : decode cX12_partOfHedges 8 = .ok (.getfield 21, 3) := dq180 bw_cX12_partOfHedges_0 8 rfl rfl rfl
theorem dX12_partOfHedges_11 : decode cX12_partOfHedges 11 = .ok (.if_icmp .ge 45, 3) := dq162 bw_cX12_partOfHedges_0 11 rfl rfl rfl
theorem dX12_partOfHedges_14 : decode cX12_partOfHedges 14 = .ok (.iload_n 3, 1) := dq29 bw_cX12_partOfHedges_0 14 rfl rfl
theorem dX12_partOfHedges_15 : decode cX12_partOfHedges 15 = .ok (.iload_n 2, 1) := dq28 bw_cX12_partOfHedges_0 15 rfl rfl
theorem dX12_partOfHedges_16 : decode cX12_partOfHedges 16 = .ok (.iload 4, 2) := dq21 bw_cX12_partOfHedges_0 16 rfl rfl
theorem dX12_partOfHedges_18 : decode cX12_partOfHedges 18 = .ok (.invokestatic 144, 3) := dq184 bw_cX12_partOfHedges_0 18 rfl rfl rfl
theorem dX12_partOfHedges_21 : decode cX12_partOfHedges 21 = .ok (.ifCond .eq 26, 3) := dq153 bw_cX12_partOfHedges_0 21 rfl rfl rfl
theorem bw_cX12_partOfHedges_1 : dq_w cX12_partOfHedges 24 [42, 180, 1, 7, 42, 180, 0, 74, 21, 4, 46, 46, 27, 160, 0, 10, 4, 21, 4, 120, 167, 0, 4, 3, 128, 62, 132] = true := by decide +kernel
theorem dX12_partOfHedges_24 : decode cX12_partOfHedges 24 = .ok (.aload_n 0, 1) := dq42 bw_cX12_partOfHedges_1 0 rfl rfl
theorem dX12_partOfHedges_25 : decode cX12_partOfHedges 25 = .ok (.getfield 263, 3) := dq180 bw_cX12_partOfHedges_1 1 rfl rfl rfl
theorem dX12_partOfHedges_28 : decode cX12_partOfHedges 28 = .ok (.aload_n 0, 1) := dq42 bw_cX12_partOfHedges_1 4 rfl rfl
theorem dX12_partOfHedges_29 : decode cX12_partOfHedges 29 = .ok (.getfield 74, 3) := dq180 bw_cX12_partOfHedges_1 5 rfl rfl rfl
theorem dX12_partOfHedges_32 : decode cX12_partOfHedges 32 = .ok (.iload 4, 2) := dq21 bw_cX12_partOfHedges_1 8 rfl rfl
theorem dX12_partOfHedges_34 : decode cX12_partOfHedges 34 = .ok (.iaload, 1) := dq46 bw_cX12_partOfHedges_1 10 rfl rfl
theorem dX12_partOfHedges_35 : decode cX12_partOfHedges 35 = .ok (.iaload, 1) := dq46 bw_cX12_partOfHedges_1 11 rfl rfl
theorem dX12_partOfHedges_36 : decode cX12_partOfHedges 36 = .ok (.iload_n 1, 1) := dq27 bw_cX12_partOfHedges_1 12 rfl rfl
theorem dX12_partOfHedges_37 : decode cX12_partOfHedges 37 = .ok (.if_icmp .ne 10, 3) := dq160 bw_cX12_partOfHedges_1 13 rfl rfl rfl
theorem dX12_partOfHedges_40 : decode cX12_partOfHedges 40 = .ok (.iconst 1, 1) := dq4 bw_cX12_partOfHedges_1 16 rfl rfl
theorem dX12_partOfHedges_41 : decode cX12_partOfHedges 41 = .ok (.iload 4, 2) := dq21 bw_cX12_partOfHedges_1 17 rfl rfl
theorem dX12_partOfHedges_43 : decode cX12_partOfHedges 43 = .ok (.ishl, 1) := dq120 bw_cX12_partOfHedges_1 19 rfl rfl
theorem dX12_partOfHedges_44 : decode cX12_partOfHedges 44 = .ok (.goto 4, 3) := dq167 bw_cX12_partOfHedges_1 20 rfl rfl rfl
theorem dX12_partOfHedges_47 : decode cX12_partOfHedges 47 = .ok (.iconst 0, 1) := dq3 bw_cX12_partOfHedges_1 23 rfl rfl
theorem bw_cX12_partOfHedges_2 : dq_w cX12_partOfHedges 48 [128, 62, 132, 4, 1, 167, 255, 208, 29, 172] = true := by decide +kernel
theorem dX12_partOfHedges_48 : decode cX12_partOfHedges 48 = .ok (.ior, 1) := dq128 bw_cX12_partOfHedges_2 0 rfl rfl
theorem dX12_partOfHedges_49 : decode cX12_partOfHedges 49 = .ok (.istore_n 3, 1) := dq62 bw_cX12_partOfHedges_2 1 rfl rfl
theorem dX12_partOfHedges_50 : decode cX12_partOfHedges 50 = .ok (.iinc 4 1, 3) := dq132 bw_cX12_partOfHedges_2 2 rfl rfl rfl
theorem dX12_partOfHedges_53 : decode cX12_partOfHedges 53 = .ok (.goto (-48), 3) := dq167 bw_cX12_partOfHedges_2 5 rfl rfl rfl
theorem dX12_partOfHedges_56 : decode cX12_partOfHedges 56 = .ok (.iload_n 3, 1) := dq29 bw_cX12_partOfHedges_2 8 rfl rfl
theorem dX12_partOfHedges_57 : decode cX12_partOfHedges 57 = .ok (.ireturn, 1) := dq172 bw_cX12_partOfHedges_2 9 rfl rfl
theorem bw_cX12_men_0 : dq_w cX12_men 0 [42, 3, 181, 0, 3, 42, 42, 182, 1, 10, 182, 1, 21, 3, 60, 3, 61, 3, 62, 29, 42, 180, 0, 14, 162, 0, 46] = true := by decide +kernel
theorem dX12_men_0 : decode cX12_men 0 = .ok (.aload_n 0, 1) := dq42 bw_cX12_men_0 0 rfl rfl
theorem dX12_men_1 : decode cX12_men 1 = .ok (.iconst 0, 1) := dq3 bw_cX12_men_0 1 rfl rfl
theorem dX12_men_2 : decode cX12_men 2 = .ok (.putfield 3, 3) := dq181 bw_cX12_men_0 2 rfl rfl rfl
theorem dX12_men_5 : decode cX12_men 5 = .ok (.aload_n 0, 1) := dq42 bw_cX12_men_0 5 rfl rfl
theorem dX12_men_6 : decode cX12_men 6 = .ok (.aload_n 0, 1) := dq42 bw_cX12_men_0 6 rfl rfl
theorem dX12_men_7 : decode cX12_men 7 = .ok (.invokevirtual 266, 3) := dq182 bw_cX12_men_0 7 rfl rfl rfl
theorem dX12_men_10 : decode cX12_men 10 = .ok (.invokevirtual 277, 3) := dq182 bw_cX12_men_0 10 rfl rfl rfl
theorem dX12_men_13 : decode cX12_men 13 = .ok (.iconst 0, 1) := dq3 bw_cX12_men_0 13 rfl rfl
theorem dX12_men_14 : decode cX12_men 14 = .ok (.istore_n 1, 1) := dq60 bw_cX12_men_0 14 rfl rfl
theorem dX12_men_15 : decode cX12_men 15 = .ok (.iconst 0, 1) := dq3 bw_cX12_men_0 15 rfl rfl
theorem dX12_men_16 : decode cX12_men 16 = .ok (.istore_n 2, 1) := dq61 bw_cX12_men_0 16 rfl rfl
theorem dX12_men_17 : decode cX12_men 17 = .ok (.iconst 0, 1) := dq3 bw_cX12_men_0 17 rfl rfl
theorem dX12_men_18 : decode cX12_men 18 = .ok (.istore_n 3, 1) := dq62 bw_cX12_men_0 18 rfl rfl
theorem dX12_men_19 : decode cX12_men 19 = .ok (.iload_n 3, 1) := dq29 bw_cX12_men_0 19 rfl rfl
theorem dX12_men_20 : decode cX12_men 20 = .ok (.aload_n 0, 1) := dq42 bw_cX12_men_0 20 rfl rfl
theorem dX12_men_21 : decode cX12_men 21 = .ok (.getfield 14, 3) := dq180 bw_cX12_men_0 21 rfl rfl rfl
theorem bw_cX12_men_1 : dq_w cX12_men 24 [162, 0, 46, 42, 29, 42, 182, 1, 10, 182, 1, 24, 54, 4, 21, 4, 153, 0, 24, 27, 4, 42, 21, 4, 182, 1, 13] = true := by decide +kernel
theorem dX12_men_24 : decode cX12_men 24 = .ok (.if_icmp .ge 46, 3) := dq162 bw_cX12_men_1 0 rfl rfl rfl
theorem dX12_men_27 : decode cX12_men 27 = .ok (.aload_n 0, 1) := dq42 bw_cX12_men_1 3 rfl rfl
theorem dX12_men_28 : decode cX12_men 28 = .ok (.iload_n 3, 1) := dq29 bw_cX12_men_1 4 rfl rfl
theorem dX12_men_29 : decode cX12_men 29 = .ok (.aload_n 0, 1) := dq42 bw_cX12_men_1 5 rfl rfl
theorem dX12_men_30 : decode cX12_men 30 = .ok (.invokevirtual 266, 3) := dq182 bw_cX12_men_1 6 rfl rfl rfl
theorem dX12_men_33 : decode cX12_men 33 = .ok (.invokevirtual 280, 3) := dq182 bw_cX12_men_1 9 rfl rfl rfl
theorem dX12_men_36 : decode cX12_men 36 = .ok (.istore 4, 2) := dq54 bw_cX12_men_1 12 rfl rfl
theorem dX12_men_38 : decode cX12_men 38 = .ok (.iload 4, 2) := dq21 bw_cX12_men_1 14 rfl rfl
theorem dX12_men_40 : decode cX12_men 40 = .ok (.ifCond .eq 24, 3) := dq153 bw_cX12_men_1 16 rfl rfl rfl
theorem dX12_men_43 : decode cX12_men 43 = .ok (.iload_n 1, 1) := dq27 bw_cX12_men_1 19 rfl rfl
theorem dX12_men_44 : decode cX12_men 44 = .ok (.iconst 1, 1) := dq4 bw_cX12_men_1 20 rfl rfl
theorem dX12_men_45 : decode cX12_men 45 = .ok (.aload_n 0, 1) := dq42 bw_cX12_men_1 21 rfl rfl
theorem dX12_men_46 : decode cX12_men 46 = .ok (.iload 4, 2) := dq21 bw_cX12_men_1 22 rfl rfl
theorem bw_cX12_men_2 : dq_w cX12_men 48 [182, 1, 13, 184, 1, 16, 5, 108, 184, 0, 174, 96, 60, 132, 2, 1, 132, 3, 1, 167, 255, 208, 42, 3, 181, 0, 11] = true := by decide +kernel
theorem dX12_men_48 : decode cX12_men 48 = .ok (.invokevirtual 269, 3) := dq182 bw_cX12_men_2 0 rfl rfl rfl
theorem dX12_men_51 : decode cX12_men 51 = .ok (.invokestatic 272, 3) := dq184 bw_cX12_men_2 3 rfl rfl rfl
theorem dX12_men_54 : decode cX12_men 54 = .ok (.iconst 2, 1) := dq5 bw_cX12_men_2 6 rfl rfl
theorem dX12_men_55 : decode cX12_men 55 = .ok (.idiv, 1) := dq108 bw_cX12_men_2 7 rfl rfl
theorem dX12_men_56 : decode cX12_men 56 = .ok (.invokestatic 174, 3) := dq184 bw_cX12_men_2 8 rfl rfl rfl
theorem dX12_men_59 : decode cX12_men 59 = .ok (.iadd, 1) := dq96 bw_cX12_men_2 11 rfl rfl
theorem dX12_men_60 : decode cX12_men 60 = .ok (.istore_n 1, 1) := dq60 bw_cX12_men_2 12 rfl rfl
theorem dX12_men_61 : decode cX12_men 61 = .ok (.iinc 2 1, 3) := dq132 bw_cX12_men_2 13 rfl rfl rfl
theorem dX12_men_64 : decode cX12_men 64 = .ok (.iinc 3 1, 3) := dq132 bw_cX12_men_2 16 rfl rfl rfl
theorem dX12_men_67 : decode cX12_men 67 = .ok (.goto (-48), 3) := dq167 bw_cX12_men_2 19 rfl rfl rfl
theorem dX12_men_70 : decode cX12_men 70 = .ok (.aload_n 0, 1) := dq42 bw_cX12_men_2 22 rfl rfl
theorem dX12_men_71 : decode cX12_men 71 = .ok (.iconst 0, 1) := dq3 bw_cX12_men_2 23 rfl rfl
theorem bw_cX12_men_3 : dq_w cX12_men 72 [181, 0, 11, 42, 28, 182, 0, 229, 27, 172] = true := by decide +kernel
theorem dX12_men_72 : decode cX12_men 72 = .ok (.putfield 11, 3) := dq181 bw_cX12_men_3 0 rfl rfl rfl
theorem dX12_men_75 : decode cX12_men 75 = .ok (.aload_n 0, 1) := dq42 bw_cX12_men_3 3 rfl rfl
theorem dX12_men_76 : decode cX12_men 76 = .ok (.iload_n 2, 1) := dq28 bw_cX12_men_3 4 rfl rfl
theorem dX12_men_77 : decode cX12_men 77 = .ok (.invokevirtual 229, 3) := dq182 bw_cX12_men_3 5 rfl rfl rfl
theorem dX12_men_80 : decode cX12_men 80 = .ok (.iload_n 1, 1) := dq27 bw_cX12_men_3 8 rfl rfl
theorem dX12_men_81 : decode cX12_men 81 = .ok (.ireturn, 1) := dq172 bw_cX12_men_3 9 rfl rfl
theorem bw_cX12_canTrail_0 : dq_w cX12_canTrail 0 [27, 154, 0, 5, 4, 172, 42, 27, 182, 1, 21, 42, 42, 180, 1, 7, 28, 46, 27, 182, 1, 24, 27, 159, 0, 5, 3] = true := by decide +kernel
theorem dX12_canTrail_0 : decode cX12_canTrail 0 = .ok (.iload_n 1, 1) := dq27 bw_cX12_canTrail_0 0 rfl rfl
theorem dX12_canTrail_1 : decode cX12_canTrail 1 = .ok (.ifCond .ne 5, 3) := dq154 bw_cX12_canTrail_0 1 rfl rfl rfl
theorem dX12_canTrail_4 : decode cX12_canTrail 4 = .ok (.iconst 1, 1) := dq4 bw_cX12_canTrail_0 4 rfl rfl
theorem dX12_canTrail_5 : decode cX12_canTrail 5 = .ok (.ireturn, 1) := dq172 bw_cX12_canTrail_0 5 rfl rfl
theorem dX12_canTrail_6 : decode cX12_canTrail 6 = .ok (.aload_n 0, 1) := dq42 bw_cX12_canTrail_0 6 rfl rfl
theorem dX12_canTrail_7 : decode cX12_canTrail 7 = .ok (.iload_n 1, 1) := dq27 bw_cX12_canTrail_0 7 rfl rfl
theorem dX12_canTrail_8 : decode cX12_canTrail 8 = .ok (.invokevirtual 277, 3) := dq182 bw_cX12_canTrail_0 8 rfl rfl rfl
theorem dX12_canTrail_11 : decode cX12_canTrail 11 = .ok (.aload_n 0, 1) := dq42 bw_cX12_canTrail_0 11 rfl rfl
theorem dX12_canTrail_12 : decode cX12_canTrail 12 = .ok (.aload_n 0, 1) := dq42 bw_cX12_canTrail_0 12 rfl rfl
theorem dX12_canTrail_13 : decode cX12_canTrail 13 = .ok (.getfield 263, 3) := dq180 bw_cX12_canTrail_0 13 rfl rfl rfl
theorem dX12_canTrail_16 : decode cX12_canTrail 16 = .ok (.iload_n 2, 1) := dq28 bw_cX12_canTrail_0 16 rfl rfl
theorem dX12_canTrail_17 : decode cX12_canTrail 17 = .ok (.iaload, 1) := dq46 bw_cX12_canTrail_0 17 rfl rfl
theorem dX12_canTrail_18 : decode cX12_canTrail 18 = .ok (.iload_n 1, 1) := dq27 bw_cX12_canTrail_0 18 rfl rfl
theorem dX12_canTrail_19 : decode cX12_canTrail 19 = .ok (.invokevirtual 280, 3) := dq182 bw_cX12_canTrail_0 19 rfl rfl rfl
theorem dX12_canTrail_22 : decode cX12_canTrail 22 = .ok (.iload_n 1, 1) := dq27 bw_cX12_canTrail_0 22 rfl rfl
theorem dX12_canTrail_23 : decode cX12_canTrail 23 = .ok (.if_icmp .eq 5, 3) := dq159 bw_cX12_canTrail_0 23 rfl rfl rfl
theorem bw_cX12_canTrail_1 : dq_w cX12_canTrail 24 [0, 5, 3, 172, 42, 27, 182, 1, 13, 62, 29, 153, 0, 19, 29, 184, 1, 16, 5, 160, 0, 15, 29, 28, 184, 0, 144] = true := by decide +kernel
theorem dX12_canTrail_26 : decode cX12_canTrail 26 = .ok (.iconst 0, 1) := dq3 bw_cX12_canTrail_1 2 rfl rfl
theorem dX12_canTrail_27 : decode cX12_canTrail 27 = .ok (.ireturn, 1) := dq172 bw_cX12_canTrail_1 3 rfl rfl
theorem dX12_canTrail_28 : decode cX12_canTrail 28 = .ok (.aload_n 0, 1) := dq42 bw_cX12_canTrail_1 4 rfl rfl
theorem dX12_canTrail_29 : decode cX12_canTrail 29 = .ok (.iload_n 1, 1) := dq27 bw_cX12_canTrail_1 5 rfl rfl
theorem dX12_canTrail_30 : decode cX12_canTrail 30 = .ok (.invokevirtual 269, 3) := dq182 bw_cX12_canTrail_1 6 rfl rfl rfl
theorem dX12_canTrail_33 : decode cX12_canTrail 33 = .ok (.istore_n 3, 1) := dq62 bw_cX12_canTrail_1 9 rfl rfl
theorem dX12_canTrail_34 : decode cX12_canTrail 34 = .ok (.iload_n 3, 1) := dq29 bw_cX12_canTrail_1 10 rfl rfl
theorem dX12_canTrail_35 : decode cX12_canTrail 35 = .ok (.ifCond .eq 19, 3) := dq153 bw_cX12_canTrail_1 11 rfl rfl rfl
theorem dX12_canTrail_38 : decode cX12_canTrail 38 = .ok (.iload_n 3, 1) := dq29 bw_cX12_canTrail_1 14 rfl rfl
theorem dX12_canTrail_39 : decode cX12_canTrail 39 = .ok (.invokestatic 272, 3) := dq184 bw_cX12_canTrail_1 15 rfl rfl rfl
theorem dX12_canTrail_42 : decode cX12_canTrail 42 = .ok (.iconst 2, 1) := dq5 bw_cX12_canTrail_1 18 rfl rfl
theorem dX12_canTrail_43 : decode cX12_canTrail 43 = .ok (.if_icmp .ne 15, 3) := dq160 bw_cX12_canTrail_1 19 rfl rfl rfl
theorem dX12_canTrail_46 : decode cX12_canTrail 46 = .ok (.iload_n 3, 1) := dq29 bw_cX12_canTrail_1 22 rfl rfl
theorem dX12_canTrail_47 : decode cX12_canTrail 47 = .ok (.iload_n 2, 1) := dq28 bw_cX12_canTrail_1 23 rfl rfl
theorem bw_cX12_canTrail_2 : dq_w cX12_canTrail 48 [184, 0, 144, 153, 0, 7, 4, 167, 0, 4, 3, 172] = true := by decide +kernel
theorem dX12_canTrail_48 : decode cX12_canTrail 48 = .ok (.invokestatic 144, 3) := dq184 bw_cX12_canTrail_2 0 rfl rfl rfl
theorem dX12_canTrail_51 : decode cX12_canTrail 51 = .ok (.ifCond .eq 7, 3) := dq153 bw_cX12_canTrail_2 3 rfl rfl rfl
theorem dX12_canTrail_54 : decode cX12_canTrail 54 = .ok (.iconst 1, 1) := dq4 bw_cX12_canTrail_2 6 rfl rfl
theorem dX12_canTrail_55 : decode cX12_canTrail 55 = .ok (.goto 4, 3) := dq167 bw_cX12_canTrail_2 7 rfl rfl rfl
theorem dX12_canTrail_58 : decode cX12_canTrail 58 = .ok (.iconst 0, 1) := dq3 bw_cX12_canTrail_2 10 rfl rfl
theorem dX12_canTrail_59 : decode cX12_canTrail 59 = .ok (.ireturn, 1) := dq172 bw_cX12_canTrail_2 11 rfl rfl
theorem bw_cX12_trail_0 : dq_w cX12_trail 0 [42, 3, 181, 0, 3, 42, 27, 182, 0, 157, 154, 0, 5, 2, 172, 42, 182, 1, 10, 61, 42, 28, 27, 182, 1, 27, 154] = true := by decide +kernel
theorem dX12_trail_0 : decode cX12_trail 0 = .ok (.aload_n 0, 1) := dq42 bw_cX12_trail_0 0 rfl rfl
theorem dX12_trail_1 : decode cX12_trail 1 = .ok (.iconst 0, 1) := dq3 bw_cX12_trail_0 1 rfl rfl
theorem dX12_trail_2 : decode cX12_trail 2 = .ok (.putfield 3, 3) := dq181 bw_cX12_trail_0 2 rfl rfl rfl
theorem dX12_trail_5 : decode cX12_trail 5 = .ok (.aload_n 0, 1) := dq42 bw_cX12_trail_0 5 rfl rfl
theorem dX12_trail_6 : decode cX12_trail 6 = .ok (.iload_n 1, 1) := dq27 bw_cX12_trail_0 6 rfl rfl
theorem dX12_trail_7 : decode cX12_trail 7 = .ok (.invokevirtual 157, 3) := dq182 bw_cX12_trail_0 7 rfl rfl rfl
theorem dX12_trail_10 : decode cX12_trail 10 = .ok (.ifCond .ne 5, 3) := dq154 bw_cX12_trail_0 10 rfl rfl rfl
theorem dX12_trail_13 : decode cX12_trail 13 = .ok (.iconst (-1), 1) := dq2 bw_cX12_trail_0 13 rfl rfl
theorem dX12_trail_14 : decode cX12_trail 14 = .ok (.ireturn, 1) := dq172 bw_cX12_trail_0 14 rfl rfl
theorem dX12_trail_15 : decode cX12_trail 15 = .ok (.aload_n 0, 1) := dq42 bw_cX12_trail_0 15 rfl rfl
theorem dX12_trail_16 : decode cX12_trail 16 = .ok (.invokevirtual 266, 3) := dq182 bw_cX12_trail_0 16 rfl rfl rfl
theorem dX12_trail_19 : decode cX12_trail 19 = .ok (.istore_n 2, 1) := dq61 bw_cX12_trail_0 19 rfl rfl
theorem dX12_trail_20 : decode cX12_trail 20 = .ok (.aload_n 0, 1) := dq42 bw_cX12_trail_0 20 rfl rfl
theorem dX12_trail_21 : decode cX12_trail 21 = .ok (.iload_n 2, 1) := dq28 bw_cX12_trail_0 21 rfl rfl
theorem dX12_trail_22 : decode cX12_trail 22 = .ok (.iload_n 1, 1) := dq27 bw_cX12_trail_0 22 rfl rfl
theorem dX12_trail_23 : decode cX12_trail 23 = .ok (.invokevirtual 283, 3) := dq182 bw_cX12_trail_0 23 rfl rfl rfl
theorem bw_cX12_trail_1 : dq_w cX12_trail 24 [1, 27, 154, 0, 6, 16, 254, 172, 42, 3, 181, 0, 11, 27, 62, 3, 54, 4, 28, 153, 0, 91, 3, 54, 5, 28, 21] = true := by decide +kernel
theorem dX12_trail_26 : decode cX12_trail 26 = .ok (.ifCond .ne 6, 3) := dq154 bw_cX12_trail_1 2 rfl rfl rfl
theorem dX12_trail_29 : decode cX12_trail 29 = .ok (.bipush (-2), 2) := dq16 bw_cX12_trail_1 5 rfl rfl rfl
theorem dX12_trail_31 : decode cX12_trail 31 = .ok (.ireturn, 1) := dq172 bw_cX12_trail_1 7 rfl rfl
theorem dX12_trail_32 : decode cX12_trail 32 = .ok (.aload_n 0, 1) := dq42 bw_cX12_trail_1 8 rfl rfl
theorem dX12_trail_33 : decode cX12_trail 33 = .ok (.iconst 0, 1) := dq3 bw_cX12_trail_1 9 rfl rfl
theorem dX12_trail_34 : decode cX12_trail 34 = .ok (.putfield 11, 3) := dq181 bw_cX12_trail_1 10 rfl rfl rfl
theorem dX12_trail_37 : decode cX12_trail 37 = .ok (.iload_n 1, 1) := dq27 bw_cX12_trail_1 13 rfl rfl
theorem dX12_trail_38 : decode cX12_trail 38 = .ok (.istore_n 3, 1) := dq62 bw_cX12_trail_1 14 rfl rfl
theorem dX12_trail_39 : decode cX12_trail 39 = .ok (.iconst 0, 1) := dq3 bw_cX12_trail_1 15 rfl rfl
theorem dX12_trail_40 : decode cX12_trail 40 = .ok (.istore 4, 2) := dq54 bw_cX12_trail_1 16 rfl rfl
theorem dX12_trail_42 : decode cX12_trail 42 = .ok (.iload_n 2, 1) := dq28 bw_cX12_trail_1 18 rfl rfl
theorem dX12_trail_43 : decode cX12_trail 43 = .ok (.ifCond .eq 91, 3) := dq153 bw_cX12_trail_1 19 rfl rfl rfl
theorem dX12_trail_46 : decode cX12_trail 46 = .ok (.iconst 0, 1) := dq3 bw_cX12_trail_1 22 rfl rfl
theorem dX12_trail_47 : decode cX12_trail 47 = .ok (.istore 5, 2) := dq54 bw_cX12_trail_1 23 rfl rfl
theorem bw_cX12_trail_2 : dq_w cX12_trail 48 [5, 28, 21, 5, 184, 0, 144, 153, 0, 35, 42, 21, 5, 29, 182, 0, 180, 153, 0, 25, 42, 28, 4, 21, 5, 120, 2] = true := by decide +kernel
theorem dX12_trail_49 : decode cX12_trail 49 = .ok (.iload_n 2, 1) := dq28 bw_cX12_trail_2 1 rfl rfl
theorem dX12_trail_50 : decode cX12_trail 50 = .ok (.iload 5, 2) := dq21 bw_cX12_trail_2 2 rfl rfl
theorem dX12_trail_52 : decode cX12_trail 52 = .ok (.invokestatic 144, 3) := dq184 bw_cX12_trail_2 4 rfl rfl rfl
theorem dX12_trail_55 : decode cX12_trail 55 = .ok (.ifCond .eq 35, 3) := dq153 bw_cX12_trail_2 7 rfl rfl rfl
theorem dX12_trail_58 : decode cX12_trail 58 = .ok (.aload_n 0, 1) := dq42 bw_cX12_trail_2 10 rfl rfl
theorem dX12_trail_59 : decode cX12_trail 59 = .ok (.iload 5, 2) := dq21 bw_cX12_trail_2 11 rfl rfl
theorem dX12_trail_61 : decode cX12_trail 61 = .ok (.iload_n 3, 1) := dq29 bw_cX12_trail_2 13 rfl rfl
theorem dX12_trail_62 : decode cX12_trail 62 = .ok (.invokevirtual 180, 3) := dq182 bw_cX12_trail_2 14 rfl rfl rfl
theorem dX12_trail_65 : decode cX12_trail 65 = .ok (.ifCond .eq 25, 3) := dq153 bw_cX12_trail_2 17 rfl rfl rfl
theorem dX12_trail_68 : decode cX12_trail 68 = .ok (.aload_n 0, 1) := dq42 bw_cX12_trail_2 20 rfl rfl
theorem dX12_trail_69 : decode cX12_trail 69 = .ok (.iload_n 2, 1) := dq28 bw_cX12_trail_2 21 rfl rfl
theorem dX12_trail_70 : decode cX12_trail 70 = .ok (.iconst 1, 1) := dq4 bw_cX12_trail_2 22 rfl rfl
theorem dX12_trail_71 : decode cX12_trail 71 = .ok (.iload 5, 2) := dq21 bw_cX12_trail_2 23 rfl rfl
theorem bw_cX12_trail_3 : dq_w cX12_trail 72 [5, 120, 2, 130, 126, 42, 21, 5, 29, 182, 0, 201, 182, 1, 27, 154, 0, 9, 132, 5, 1, 167, 255, 212, 42, 21, 5] = true := by decide +kernel
theorem dX12_trail_73 : decode cX12_trail 73 = .ok (.ishl, 1) := dq120 bw_cX12_trail_3 1 rfl rfl
theorem dX12_trail_74 : decode cX12_trail 74 = .ok (.iconst (-1), 1) := dq2 bw_cX12_trail_3 2 rfl rfl
theorem dX12_trail_75 : decode cX12_trail 75 = .ok (.ixor, 1) := dq130 bw_cX12_trail_3 3 rfl rfl
theorem dX12_trail_76 : decode cX12_trail 76 = .ok (.iand, 1) := dq126 bw_cX12_trail_3 4 rfl rfl
theorem dX12_trail_77 : decode cX12_trail 77 = .ok (.aload_n 0, 1) := dq42 bw_cX12_trail_3 5 rfl rfl
theorem dX12_trail_78 : decode cX12_trail 78 = .ok (.iload 5, 2) := dq21 bw_cX12_trail_3 6 rfl rfl
theorem dX12_trail_80 : decode cX12_trail 80 = .ok (.iload_n 3, 1) := dq29 bw_cX12_trail_3 8 rfl rfl
theorem dX12_trail_81 : decode cX12_trail 81 = .ok (.invokevirtual 201, 3) := dq182 bw_cX12_trail_3 9 rfl rfl rfl
theorem dX12_trail_84 : decode cX12_trail 84 = .ok (.invokevirtual 283, 3) := dq182 bw_cX12_trail_3 12 rfl rfl rfl
theorem dX12_trail_87 : decode cX12_trail 87 = .ok (.ifCond .ne 9, 3) := dq154 bw_cX12_trail_3 15 rfl rfl rfl
theorem dX12_trail_90 : decode cX12_trail 90 = .ok (.iinc 5 1, 3) := dq132 bw_cX12_trail_3 18 rfl rfl rfl
theorem dX12_trail_93 : decode cX12_trail 93 = .ok (.goto (-44), 3) := dq167 bw_cX12_trail_3 21 rfl rfl rfl
theorem bw_cX12_trail_4 : dq_w cX12_trail 96 [42, 21, 5, 182, 0, 229, 21, 4, 42, 21, 5, 29, 182, 0, 186, 96, 54, 4, 28, 4, 21, 5, 120, 2, 130, 126, 61] = true := by decide +kernel
theorem dX12_trail_96 : decode cX12_trail 96 = .ok (.aload_n 0, 1) := dq42 bw_cX12_trail_4 0 rfl rfl
theorem dX12_trail_97 : decode cX12_trail 97 = .ok (.iload 5, 2) := dq21 bw_cX12_trail_4 1 rfl rfl
theorem dX12_trail_99 : decode cX12_trail 99 = .ok (.invokevirtual 229, 3) := dq182 bw_cX12_trail_4 3 rfl rfl rfl
theorem dX12_trail_102 : decode cX12_trail 102 = .ok (.iload 4, 2) := dq21 bw_cX12_trail_4 6 rfl rfl
theorem dX12_trail_104 : decode cX12_trail 104 = .ok (.aload_n 0, 1) := dq42 bw_cX12_trail_4 8 rfl rfl
theorem dX12_trail_105 : decode cX12_trail 105 = .ok (.iload 5, 2) := dq21 bw_cX12_trail_4 9 rfl rfl
theorem dX12_trail_107 : decode cX12_trail 107 = .ok (.iload_n 3, 1) := dq29 bw_cX12_trail_4 11 rfl rfl
theorem dX12_trail_108 : decode cX12_trail 108 = .ok (.invokevirtual 186, 3) := dq182 bw_cX12_trail_4 12 rfl rfl rfl
theorem dX12_trail_111 : decode cX12_trail 111 = .ok (.iadd, 1) := dq96 bw_cX12_trail_4 15 rfl rfl
theorem dX12_trail_112 : decode cX12_trail 112 = .ok (.istore 4, 2) := dq54 bw_cX12_trail_4 16 rfl rfl
theorem dX12_trail_114 : decode cX12_trail 114 = .ok (.iload_n 2, 1) := dq28 bw_cX12_trail_4 18 rfl rfl
theorem dX12_trail_115 : decode cX12_trail 115 = .ok (.iconst 1, 1) := dq4 bw_cX12_trail_4 19 rfl rfl
theorem dX12_trail_116 : decode cX12_trail 116 = .ok (.iload 5, 2) := dq21 bw_cX12_trail_4 20 rfl rfl
theorem dX12_trail_118 : decode cX12_trail 118 = .ok (.ishl, 1) := dq120 bw_cX12_trail_4 22 rfl rfl
theorem dX12_trail_119 : decode cX12_trail 119 = .ok (.iconst (-1), 1) := dq2 bw_cX12_trail_4 23 rfl rfl
theorem bw_cX12_trail_5 : dq_w cX12_trail 120 [130, 126, 61, 42, 21, 5, 29, 182, 0, 201, 62, 167, 255, 167, 21, 4, 172] = true := by decide +kernel
theorem dX12_trail_120 : decode cX12_trail 120 = .ok (.ixor, 1) := dq130 bw_cX12_trail_5 0 rfl rfl
theorem dX12_trail_121 : decode cX12_trail 121 = .ok (.iand, 1) := dq126 bw_cX12_trail_5 1 rfl rfl
theorem dX12_trail_122 : decode cX12_trail 122 = .ok (.istore_n 2, 1) := dq61 bw_cX12_trail_5 2 rfl rfl
theorem dX12_trail_123 : decode cX12_trail 123 = .ok (.aload_n 0, 1) := dq42 bw_cX12_trail_5 3 rfl rfl
theorem dX12_trail_124 : decode cX12_trail 124 = .ok (.iload 5, 2) := dq21 bw_cX12_trail_5 4 rfl rfl
theorem dX12_trail_126 : decode cX12_trail 126 = .ok (.iload_n 3, 1) := dq29 bw_cX12_trail_5 6 rfl rfl
theorem dX12_trail_127 : decode cX12_trail 127 = .ok (.invokevirtual 201, 3) := dq182 bw_cX12_trail_5 7 rfl rfl rfl
theorem dX12_trail_130 : decode cX12_trail 130 = .ok (.istore_n 3, 1) := dq62 bw_cX12_trail_5 10 rfl rfl
theorem dX12_trail_131 : decode cX12_trail 131 = .ok (.goto (-89), 3) := dq167 bw_cX12_trail_5 11 rfl rfl rfl
theorem dX12_trail_134 : decode cX12_trail 134 = .ok (.iload 4, 2) := dq21 bw_cX12_trail_5 14 rfl rfl
theorem dX12_trail_136 : decode cX12_trail 136 = .ok (.ireturn, 1) := dq172 bw_cX12_trail_5 16 rfl rfl
theorem bw_cX12_hangTogether_0 : dq_w cX12_hangTogether 0 [42, 42, 182, 1, 10, 182, 1, 21, 4, 60, 4, 61, 28, 42, 180, 0, 21, 162, 0, 44, 27, 153, 0, 32, 42, 180, 1] = true := by decide +kernel
theorem dX12_hangTogether_0 : decode cX12_hangTogether 0 = .ok (.aload_n 0, 1) := dq42 bw_cX12_hangTogether_0 0 rfl rfl
theorem dX12_hangTogether_1 : decode cX12_hangTogether 1 = .ok (.aload_n 0, 1) := dq42 bw_cX12_hangTogether_0 1 rfl rfl
theorem dX12_hangTogether_2 : decode cX12_hangTogether 2 = .ok (.invokevirtual 266, 3) := dq182 bw_cX12_hangTogether_0 2 rfl rfl rfl
theorem dX12_hangTogether_5 : decode cX12_hangTogether 5 = .ok (.invokevirtual 277, 3) := dq182 bw_cX12_hangTogether_0 5 rfl rfl rfl
theorem dX12_hangTogether_8 : decode cX12_hangTogether 8 = .ok (.iconst 1, 1) := dq4 bw_cX12_hangTogether_0 8 rfl rfl
theorem dX12_hangTogether_9 : decode cX12_hangTogether 9 = .ok (.istore_n 1, 1) := dq60 bw_cX12_hangTogether_0 9 rfl rfl
theorem dX12_hangTogether_10 : decode cX12_hangTogether 10 = .ok (.iconst 1, 1) := dq4 bw_cX12_hangTogether_0 10 rfl rfl
theorem dX12_hangTogether_11 : decode cX12_hangTogether 11 = .ok (.istore_n 2, 1) := dq61 bw_cX12_hangTogether_0 11 rfl rfl
theorem dX12_hangTogether_12 : decode cX12_hangTogether 12 = .ok (.iload_n 2, 1) := dq28 bw_cX12_hangTogether_0 12 rfl rfl
theorem dX12_hangTogether_13 : decode cX12_hangTogether 13 = .ok (.aload_n 0, 1) := dq42 bw_cX12_hangTogether_0 13 rfl rfl
theorem dX12_hangTogether_14 : decode cX12_hangTogether 14 = .ok (.getfield 21, 3) := dq180 bw_cX12_hangTogether_0 14 rfl rfl rfl
theorem dX12_hangTogether_17 : decode cX12_hangTogether 17 = .ok (.if_icmp .ge 44, 3) := dq162 bw_cX12_hangTogether_0 17 rfl rfl rfl
theorem dX12_hangTogether_20 : decode cX12_hangTogether 20 = .ok (.iload_n 1, 1) := dq27 bw_cX12_hangTogether_0 20 rfl rfl
theorem dX12_hangTogether_21 : decode cX12_hangTogether 21 = .ok (.ifCond .eq 32, 3) := dq153 bw_cX12_hangTogether_0 21 rfl rfl rfl
theorem bw_cX12_hangTogether_1 : dq_w cX12_hangTogether 24 [42, 180, 1, 7, 42, 180, 0, 74, 28, 46, 46, 42, 180, 1, 7, 42, 180, 0, 74, 3, 46, 46, 160, 0, 7, 4, 167] = true := by decide +kernel
theorem dX12_hangTogether_24 : decode cX12_hangTogether 24 = .ok (.aload_n 0, 1) := dq42 bw_cX12_hangTogether_1 0 rfl rfl
theorem dX12_hangTogether_25 : decode cX12_hangTogether 25 = .ok (.getfield 263, 3) := dq180 bw_cX12_hangTogether_1 1 rfl rfl rfl
theorem dX12_hangTogether_28 : decode cX12_hangTogether 28 = .ok (.aload_n 0, 1) := dq42 bw_cX12_hangTogether_1 4 rfl rfl
theorem dX12_hangTogether_29 : decode cX12_hangTogether 29 = .ok (.getfield 74, 3) := dq180 bw_cX12_hangTogether_1 5 rfl rfl rfl
theorem dX12_hangTogether_32 : decode cX12_hangTogether 32 = .ok (.iload_n 2, 1) := dq28 bw_cX12_hangTogether_1 8 rfl rfl
theorem dX12_hangTogether_33 : decode cX12_hangTogether 33 = .ok (.iaload, 1) := dq46 bw_cX12_hangTogether_1 9 rfl rfl
theorem dX12_hangTogether_34 : decode cX12_hangTogether 34 = .ok (.iaload, 1) := dq46 bw_cX12_hangTogether_1 10 rfl rfl
theorem dX12_hangTogether_35 : decode cX12_hangTogether 35 = .ok (.aload_n 0, 1) := dq42 bw_cX12_hangTogether_1 11 rfl rfl
theorem dX12_hangTogether_36 : decode cX12_hangTogether 36 = .ok (.getfield 263, 3) := dq180 bw_cX12_hangTogether_1 12 rfl rfl rfl
theorem dX12_hangTogether_39 : decode cX12_hangTogether 39 = .ok (.aload_n 0, 1) := dq42 bw_cX12_hangTogether_1 15 rfl rfl
theorem dX12_hangTogether_40 : decode cX12_hangTogether 40 = .ok (.getfield 74, 3) := dq180 bw_cX12_hangTogether_1 16 rfl rfl rfl
theorem dX12_hangTogether_43 : decode cX12_hangTogether 43 = .ok (.iconst 0, 1) := dq3 bw_cX12_hangTogether_1 19 rfl rfl
theorem dX12_hangTogether_44 : decode cX12_hangTogether 44 = .ok (.iaload, 1) := dq46 bw_cX12_hangTogether_1 20 rfl rfl
theorem dX12_hangTogether_45 : decode cX12_hangTogether 45 = .ok (.iaload, 1) := dq46 bw_cX12_hangTogether_1 21 rfl rfl
theorem dX12_hangTogether_46 : decode cX12_hangTogether 46 = .ok (.if_icmp .ne 7, 3) := dq160 bw_cX12_hangTogether_1 22 rfl rfl rfl
theorem bw_cX12_hangTogether_2 : dq_w cX12_hangTogether 48 [7, 4, 167, 0, 4, 3, 60, 132, 2, 1, 167, 255, 210, 27, 172] = true := by decide +kernel
theorem dX12_hangTogether_49 : decode cX12_hangTogether 49 = .ok (.iconst 1, 1) := dq4 bw_cX12_hangTogether_2 1 rfl rfl
theorem dX12_hangTogether_50 : decode cX12_hangTogether 50 = .ok (.goto 4, 3) := dq167 bw_cX12_hangTogether_2 2 rfl rfl rfl
theorem dX12_hangTogether_53 : decode cX12_hangTogether 53 = .ok (.iconst 0, 1) := dq3 bw_cX12_hangTogether_2 5 rfl rfl
theorem dX12_hangTogether_54 : decode cX12_hangTogether 54 = .ok (.istore_n 1, 1) := dq60 bw_cX12_hangTogether_2 6 rfl rfl
theorem dX12_hangTogether_55 : decode cX12_hangTogether 55 = .ok (.iinc 2 1, 3) := dq132 bw_cX12_hangTogether_2 7 rfl rfl rfl
theorem dX12_hangTogether_58 : decode cX12_hangTogether 58 = .ok (.goto (-46), 3) := dq167 bw_cX12_hangTogether_2 10 rfl rfl rfl
theorem dX12_hangTogether_61 : decode cX12_hangTogether 61 = .ok (.iload_n 1, 1) := dq27 bw_cX12_hangTogether_2 13 rfl rfl
theorem dX12_hangTogether_62 : decode cX12_hangTogether 62 = .ok (.ireturn, 1) := dq172 bw_cX12_hangTogether_2 14 rfl rfl
theorem bw_cX12_isEven_0 : dq_w cX12_isEven 0 [3, 61, 28, 42, 180, 0, 14, 162, 0, 16, 42, 180, 1, 30, 28, 3, 79, 132, 2, 1, 167, 255, 238, 3, 61, 28, 42] = true := by decide +kernel
theorem dX12_isEven_0 : decode cX12_isEven 0 = .ok (.iconst 0, 1) := dq3 bw_cX12_isEven_0 0 rfl rfl
theorem dX12_isEven_1 : decode cX12_isEven 1 = .ok (.istore_n 2, 1) := dq61 bw_cX12_isEven_0 1 rfl rfl
theorem dX12_isEven_2 : decode cX12_isEven 2 = .ok (.iload_n 2, 1) := dq28 bw_cX12_isEven_0 2 rfl rfl
theorem dX12_isEven_3 : decode cX12_isEven 3 = .ok (.aload_n 0, 1) := dq42 bw_cX12_isEven_0 3 rfl rfl
theorem dX12_isEven_4 : decode cX12_isEven 4 = .ok (.getfield 14, 3) := dq180 bw_cX12_isEven_0 4 rfl rfl rfl
theorem dX12_isEven_7 : decode cX12_isEven 7 = .ok (.if_icmp .ge 16, 3) := dq162 bw_cX12_isEven_0 7 rfl rfl rfl
theorem dX12_isEven_10 : decode cX12_isEven 10 = .ok (.aload_n 0, 1) := dq42 bw_cX12_isEven_0 10 rfl rfl
theorem dX12_isEven_11 : decode cX12_isEven 11 = .ok (.getfield 286, 3) := dq180 bw_cX12_isEven_0 11 rfl rfl rfl
theorem dX12_isEven_14 : decode cX12_isEven 14 = .ok (.iload_n 2, 1) := dq28 bw_cX12_isEven_0 14 rfl rfl
theorem dX12_isEven_15 : decode cX12_isEven 15 = .ok (.iconst 0, 1) := dq3 bw_cX12_isEven_0 15 rfl rfl
theorem dX12_isEven_16 : decode cX12_isEven 16 = .ok (.iastore, 1) := dq79 bw_cX12_isEven_0 16 rfl rfl
theorem dX12_isEven_17 : decode cX12_isEven 17 = .ok (.iinc 2 1, 3) := dq132 bw_cX12_isEven_0 17 rfl rfl rfl
theorem dX12_isEven_20 : decode cX12_isEven 20 = .ok (.goto (-18), 3) := dq167 bw_cX12_isEven_0 20 rfl rfl rfl
theorem dX12_isEven_23 : decode cX12_isEven 23 = .ok (.iconst 0, 1) := dq3 bw_cX12_isEven_0 23 rfl rfl
theorem bw_cX12_isEven_1 : dq_w cX12_isEven 24 [61, 28, 42, 180, 0, 21, 162, 0, 53, 27, 28, 184, 0, 144, 153, 0, 7, 2, 167, 0, 4, 4, 62, 42, 180, 1, 30] = true := by decide +kernel
theorem dX12_isEven_24 : decode cX12_isEven 24 = .ok (.istore_n 2, 1) := dq61 bw_cX12_isEven_1 0 rfl rfl
theorem dX12_isEven_25 : decode cX12_isEven 25 = .ok (.iload_n 2, 1) := dq28 bw_cX12_isEven_1 1 rfl rfl
theorem dX12_isEven_26 : decode cX12_isEven 26 = .ok (.aload_n 0, 1) := dq42 bw_cX12_isEven_1 2 rfl rfl
theorem dX12_isEven_27 : decode cX12_isEven 27 = .ok (.getfield 21, 3) := dq180 bw_cX12_isEven_1 3 rfl rfl rfl
theorem dX12_isEven_30 : decode cX12_isEven 30 = .ok (.if_icmp .ge 53, 3) := dq162 bw_cX12_isEven_1 6 rfl rfl rfl
theorem dX12_isEven_33 : decode cX12_isEven 33 = .ok (.iload_n 1, 1) := dq27 bw_cX12_isEven_1 9 rfl rfl
theorem dX12_isEven_34 : decode cX12_isEven 34 = .ok (.iload_n 2, 1) := dq28 bw_cX12_isEven_1 10 rfl rfl
theorem dX12_isEven_35 : decode cX12_isEven 35 = .ok (.invokestatic 144, 3) := dq184 bw_cX12_isEven_1 11 rfl rfl rfl
theorem dX12_isEven_38 : decode cX12_isEven 38 = .ok (.ifCond .eq 7, 3) := dq153 bw_cX12_isEven_1 14 rfl rfl rfl
theorem dX12_isEven_41 : decode cX12_isEven 41 = .ok (.iconst (-1), 1) := dq2 bw_cX12_isEven_1 17 rfl rfl
theorem dX12_isEven_42 : decode cX12_isEven 42 = .ok (.goto 4, 3) := dq167 bw_cX12_isEven_1 18 rfl rfl rfl
theorem dX12_isEven_45 : decode cX12_isEven 45 = .ok (.iconst 1, 1) := dq4 bw_cX12_isEven_1 21 rfl rfl
theorem dX12_isEven_46 : decode cX12_isEven 46 = .ok (.istore_n 3, 1) := dq62 bw_cX12_isEven_1 22 rfl rfl
theorem dX12_isEven_47 : decode cX12_isEven 47 = .ok (.aload_n 0, 1) := dq42 bw_cX12_isEven_1 23 rfl rfl
theorem bw_cX12_isEven_2 : dq_w cX12_isEven 48 [180, 1, 30, 42, 180, 0, 74, 28, 46, 92, 46, 29, 100, 79, 42, 180, 1, 30, 42, 180, 0, 80, 28, 46, 92, 46, 29] = true := by decide +kernel
theorem dX12_isEven_48 : decode cX12_isEven 48 = .ok (.getfield 286, 3) := dq180 bw_cX12_isEven_2 0 rfl rfl rfl
theorem dX12_isEven_51 : decode cX12_isEven 51 = .ok (.aload_n 0, 1) := dq42 bw_cX12_isEven_2 3 rfl rfl
theorem dX12_isEven_52 : decode cX12_isEven 52 = .ok (.getfield 74, 3) := dq180 bw_cX12_isEven_2 4 rfl rfl rfl
theorem dX12_isEven_55 : decode cX12_isEven 55 = .ok (.iload_n 2, 1) := dq28 bw_cX12_isEven_2 7 rfl rfl
theorem dX12_isEven_56 : decode cX12_isEven 56 = .ok (.iaload, 1) := dq46 bw_cX12_isEven_2 8 rfl rfl
theorem dX12_isEven_57 : decode cX12_isEven 57 = .ok (.dup2, 1) := dq92 bw_cX12_isEven_2 9 rfl rfl
theorem dX12_isEven_58 : decode cX12_isEven 58 = .ok (.iaload, 1) := dq46 bw_cX12_isEven_2 10 rfl rfl
theorem dX12_isEven_59 : decode cX12_isEven 59 = .ok (.iload_n 3, 1) := dq29 bw_cX12_isEven_2 11 rfl rfl
theorem dX12_isEven_60 : decode cX12_isEven 60 = .ok (.isub, 1) := dq100 bw_cX12_isEven_2 12 rfl rfl
theorem dX12_isEven_61 : decode cX12_isEven 61 = .ok (.iastore, 1) := dq79 bw_cX12_isEven_2 13 rfl rfl
theorem dX12_isEven_62 : decode cX12_isEven 62 = .ok (.aload_n 0, 1) := dq42 bw_cX12_isEven_2 14 rfl rfl
theorem dX12_isEven_63 : decode cX12_isEven 63 = .ok (.getfield 286, 3) := dq180 bw_cX12_isEven_2 15 rfl rfl rfl
theorem dX12_isEven_66 : decode cX12_isEven 66 = .ok (.aload_n 0, 1) := dq42 bw_cX12_isEven_2 18 rfl rfl
theorem dX12_isEven_67 : decode cX12_isEven 67 = .ok (.getfield 80, 3) := dq180 bw_cX12_isEven_2 19 rfl rfl rfl
theorem dX12_isEven_70 : decode cX12_isEven 70 = .ok (.iload_n 2, 1) := dq28 bw_cX12_isEven_2 22 rfl rfl
theorem dX12_isEven_71 : decode cX12_isEven 71 = .ok (.iaload, 1) := dq46 bw_cX12_isEven_2 23 rfl rfl
theorem bw_cX12_isEven_3 : dq_w cX12_isEven 72 [92, 46, 29, 96, 79, 132, 2, 1, 167, 255, 201, 4, 61, 3, 62, 29, 42, 180, 0, 14, 162, 0, 28, 28, 153, 0, 16] = true := by decide +kernel
theorem dX12_isEven_72 : decode cX12_isEven 72 = .ok (.dup2, 1) := dq92 bw_cX12_isEven_3 0 rfl rfl
theorem dX12_isEven_73 : decode cX12_isEven 73 = .ok (.iaload, 1) := dq46 bw_cX12_isEven_3 1 rfl rfl
theorem dX12_isEven_74 : decode cX12_isEven 74 = .ok (.iload_n 3, 1) := dq29 bw_cX12_isEven_3 2 rfl rfl
theorem dX12_isEven_75 : decode cX12_isEven 75 = .ok (.iadd, 1) := dq96 bw_cX12_isEven_3 3 rfl rfl
theorem dX12_isEven_76 : decode cX12_isEven 76 = .ok (.iastore, 1) := dq79 bw_cX12_isEven_3 4 rfl rfl
theorem dX12_isEven_77 : decode cX12_isEven 77 = .ok (.iinc 2 1, 3) := dq132 bw_cX12_isEven_3 5 rfl rfl rfl
theorem dX12_isEven_80 : decode cX12_isEven 80 = .ok (.goto (-55), 3) := dq167 bw_cX12_isEven_3 8 rfl rfl rfl
theorem dX12_isEven_83 : decode cX12_isEven 83 = .ok (.iconst 1, 1) := dq4 bw_cX12_isEven_3 11 rfl rfl
theorem dX12_isEven_84 : decode cX12_isEven 84 = .ok (.istore_n 2, 1) := dq61 bw_cX12_isEven_3 12 rfl rfl
theorem dX12_isEven_85 : decode cX12_isEven 85 = .ok (.iconst 0, 1) := dq3 bw_cX12_isEven_3 13 rfl rfl
theorem dX12_isEven_86 : decode cX12_isEven 86 = .ok (.istore_n 3, 1) := dq62 bw_cX12_isEven_3 14 rfl rfl
theorem dX12_isEven_87 : decode cX12_isEven 87 = .ok (.iload_n 3, 1) := dq29 bw_cX12_isEven_3 15 rfl rfl
theorem dX12_isEven_88 : decode cX12_isEven 88 = .ok (.aload_n 0, 1) := dq42 bw_cX12_isEven_3 16 rfl rfl
theorem dX12_isEven_89 : decode cX12_isEven 89 = .ok (.getfield 14, 3) := dq180 bw_cX12_isEven_3 17 rfl rfl rfl
theorem dX12_isEven_92 : decode cX12_isEven 92 = .ok (.if_icmp .ge 28, 3) := dq162 bw_cX12_isEven_3 20 rfl rfl rfl
theorem dX12_isEven_95 : decode cX12_isEven 95 = .ok (.iload_n 2, 1) := dq28 bw_cX12_isEven_3 23 rfl rfl
theorem bw_cX12_isEven_4 : dq_w cX12_isEven 96 [153, 0, 16, 42, 180, 1, 30, 29, 46, 154, 0, 7, 4, 167, 0, 4, 3, 61, 132, 3, 1, 167, 255, 226, 28, 172] = true := by decide +kernel
theorem dX12_isEven_96 : decode cX12_isEven 96 = .ok (.ifCond .eq 16, 3) := dq153 bw_cX12_isEven_4 0 rfl rfl rfl
theorem dX12_isEven_99 : decode cX12_isEven 99 = .ok (.aload_n 0, 1) := dq42 bw_cX12_isEven_4 3 rfl rfl
theorem dX12_isEven_100 : decode cX12_isEven 100 = .ok (.getfield 286, 3) := dq180 bw_cX12_isEven_4 4 rfl rfl rfl
theorem dX12_isEven_103 : decode cX12_isEven 103 = .ok (.iload_n 3, 1) := dq29 bw_cX12_isEven_4 7 rfl rfl
theorem dX12_isEven_104 : decode cX12_isEven 104 = .ok (.iaload, 1) := dq46 bw_cX12_isEven_4 8 rfl rfl
theorem dX12_isEven_105 : decode cX12_isEven 105 = .ok (.ifCond .ne 7, 3) := dq154 bw_cX12_isEven_4 9 rfl rfl rfl
theorem dX12_isEven_108 : decode cX12_isEven 108 = .ok (.iconst 1, 1) := dq4 bw_cX12_isEven_4 12 rfl rfl
theorem dX12_isEven_109 : decode cX12_isEven 109 = .ok (.goto 4, 3) := dq167 bw_cX12_isEven_4 13 rfl rfl rfl
theorem dX12_isEven_112 : decode cX12_isEven 112 = .ok (.iconst 0, 1) := dq3 bw_cX12_isEven_4 16 rfl rfl
theorem dX12_isEven_113 : decode cX12_isEven 113 = .ok (.istore_n 2, 1) := dq61 bw_cX12_isEven_4 17 rfl rfl
theorem dX12_isEven_114 : decode cX12_isEven 114 = .ok (.iinc 3 1, 3) := dq132 bw_cX12_isEven_4 18 rfl rfl rfl
theorem dX12_isEven_117 : decode cX12_isEven 117 = .ok (.goto (-30), 3) := dq167 bw_cX12_isEven_4 21 rfl rfl rfl
theorem bw_cX12_isEven_5 : dq_w cX12_isEven 120 [28, 172] = true := by decide +kernel
theorem dX12_isEven_120 : decode cX12_isEven 120 = .ok (.iload_n 2, 1) := dq28 bw_cX12_isEven_5 0 rfl rfl
theorem dX12_isEven_121 : decode cX12_isEven 121 = .ok (.ireturn, 1) := dq172 bw_cX12_isEven_5 1 rfl rfl
theorem bw_cX12_round_0 : dq_w cX12_round 0 [42, 3, 181, 0, 3, 42, 182, 1, 33, 154, 0, 6, 16, 254, 172, 2, 60, 3, 61, 3, 62, 29, 42, 182, 1, 10, 163] = true := by decide +kernel
theorem dX12_round_0 : decode cX12_round 0 = .ok (.aload_n 0, 1) := dq42 bw_cX12_round_0 0 rfl rfl
theorem dX12_round_1 : decode cX12_round 1 = .ok (.iconst 0, 1) := dq3 bw_cX12_round_0 1 rfl rfl
theorem dX12_round_2 : decode cX12_round 2 = .ok (.putfield 3, 3) := dq181 bw_cX12_round_0 2 rfl rfl rfl
theorem dX12_round_5 : decode cX12_round 5 = .ok (.aload_n 0, 1) := dq42 bw_cX12_round_0 5 rfl rfl
theorem dX12_round_6 : decode cX12_round 6 = .ok (.invokevirtual 289, 3) := dq182 bw_cX12_round_0 6 rfl rfl rfl
theorem dX12_round_9 : decode cX12_round 9 = .ok (.ifCond .ne 6, 3) := dq154 bw_cX12_round_0 9 rfl rfl rfl
theorem dX12_round_12 : decode cX12_round 12 = .ok (.bipush (-2), 2) := dq16 bw_cX12_round_0 12 rfl rfl rfl
theorem dX12_round_14 : decode cX12_round 14 = .ok (.ireturn, 1) := dq172 bw_cX12_round_0 14 rfl rfl
theorem dX12_round_15 : decode cX12_round 15 = .ok (.iconst (-1), 1) := dq2 bw_cX12_round_0 15 rfl rfl
theorem dX12_round_16 : decode cX12_round 16 = .ok (.istore_n 1, 1) := dq60 bw_cX12_round_0 16 rfl rfl
theorem dX12_round_17 : decode cX12_round 17 = .ok (.iconst 0, 1) := dq3 bw_cX12_round_0 17 rfl rfl
theorem dX12_round_18 : decode cX12_round 18 = .ok (.istore_n 2, 1) := dq61 bw_cX12_round_0 18 rfl rfl
theorem dX12_round_19 : decode cX12_round 19 = .ok (.iconst 0, 1) := dq3 bw_cX12_round_0 19 rfl rfl
theorem dX12_round_20 : decode cX12_round 20 = .ok (.istore_n 3, 1) := dq62 bw_cX12_round_0 20 rfl rfl
theorem dX12_round_21 : decode cX12_round 21 = .ok (.iload_n 3, 1) := dq29 bw_cX12_round_0 21 rfl rfl
theorem dX12_round_22 : decode cX12_round 22 = .ok (.aload_n 0, 1) := dq42 bw_cX12_round_0 22 rfl rfl
theorem dX12_round_23 : decode cX12_round 23 = .ok (.invokevirtual 266, 3) := dq182 bw_cX12_round_0 23 rfl rfl rfl
theorem bw_cX12_round_1 : dq_w cX12_round 24 [1, 10, 163, 0, 86, 3, 54, 4, 3, 54, 5, 21, 5, 42, 180, 0, 21, 162, 0, 42, 21, 4, 42, 180, 0, 83, 21] = true := by decide +kernel
theorem dX12_round_26 : decode cX12_round 26 = .ok (.if_icmp .gt 86, 3) := dq163 bw_cX12_round_1 2 rfl rfl rfl
theorem dX12_round_29 : decode cX12_round 29 = .ok (.iconst 0, 1) := dq3 bw_cX12_round_1 5 rfl rfl
theorem dX12_round_30 : decode cX12_round 30 = .ok (.istore 4, 2) := dq54 bw_cX12_round_1 6 rfl rfl
theorem dX12_round_32 : decode cX12_round 32 = .ok (.iconst 0, 1) := dq3 bw_cX12_round_1 8 rfl rfl
theorem dX12_round_33 : decode cX12_round 33 = .ok (.istore 5, 2) := dq54 bw_cX12_round_1 9 rfl rfl
theorem dX12_round_35 : decode cX12_round 35 = .ok (.iload 5, 2) := dq21 bw_cX12_round_1 11 rfl rfl
theorem dX12_round_37 : decode cX12_round 37 = .ok (.aload_n 0, 1) := dq42 bw_cX12_round_1 13 rfl rfl
theorem dX12_round_38 : decode cX12_round 38 = .ok (.getfield 21, 3) := dq180 bw_cX12_round_1 14 rfl rfl rfl
theorem dX12_round_41 : decode cX12_round 41 = .ok (.if_icmp .ge 42, 3) := dq162 bw_cX12_round_1 17 rfl rfl rfl
theorem dX12_round_44 : decode cX12_round 44 = .ok (.iload 4, 2) := dq21 bw_cX12_round_1 20 rfl rfl
theorem dX12_round_46 : decode cX12_round 46 = .ok (.aload_n 0, 1) := dq42 bw_cX12_round_1 22 rfl rfl
theorem dX12_round_47 : decode cX12_round 47 = .ok (.getfield 83, 3) := dq180 bw_cX12_round_1 23 rfl rfl rfl
