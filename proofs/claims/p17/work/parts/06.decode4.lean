theorem bw_cX12_round_2 : dq_w cX12_round 48 [0, 83, 21, 5, 46, 29, 21, 5, 184, 0, 144, 153, 0, 13, 42, 180, 0, 98, 21, 5, 46, 167, 0, 4, 3, 96, 96] = true := by decide +kernel
theorem dX12_round_50 : decode cX12_round 50 = .ok (.iload 5, 2) := dq21 bw_cX12_round_2 2 rfl rfl
theorem dX12_round_52 : decode cX12_round 52 = .ok (.iaload, 1) := dq46 bw_cX12_round_2 4 rfl rfl
theorem dX12_round_53 : decode cX12_round 53 = .ok (.iload_n 3, 1) := dq29 bw_cX12_round_2 5 rfl rfl
theorem dX12_round_54 : decode cX12_round 54 = .ok (.iload 5, 2) := dq21 bw_cX12_round_2 6 rfl rfl
theorem dX12_round_56 : decode cX12_round 56 = .ok (.invokestatic 144, 3) := dq184 bw_cX12_round_2 8 rfl rfl rfl
theorem dX12_round_59 : decode cX12_round 59 = .ok (.ifCond .eq 13, 3) := dq153 bw_cX12_round_2 11 rfl rfl rfl
theorem dX12_round_62 : decode cX12_round 62 = .ok (.aload_n 0, 1) := dq42 bw_cX12_round_2 14 rfl rfl
theorem dX12_round_63 : decode cX12_round 63 = .ok (.getfield 98, 3) := dq180 bw_cX12_round_2 15 rfl rfl rfl
theorem dX12_round_66 : decode cX12_round 66 = .ok (.iload 5, 2) := dq21 bw_cX12_round_2 18 rfl rfl
theorem dX12_round_68 : decode cX12_round 68 = .ok (.iaload, 1) := dq46 bw_cX12_round_2 20 rfl rfl
theorem dX12_round_69 : decode cX12_round 69 = .ok (.goto 4, 3) := dq167 bw_cX12_round_2 21 rfl rfl rfl
theorem bw_cX12_round_3 : dq_w cX12_round 72 [3, 96, 96, 54, 4, 132, 5, 1, 167, 255, 211, 27, 155, 0, 9, 21, 4, 28, 162, 0, 16, 42, 29, 182, 1, 36, 153] = true := by decide +kernel
theorem dX12_round_72 : decode cX12_round 72 = .ok (.iconst 0, 1) := dq3 bw_cX12_round_3 0 rfl rfl
theorem dX12_round_73 : decode cX12_round 73 = .ok (.iadd, 1) := dq96 bw_cX12_round_3 1 rfl rfl
theorem dX12_round_74 : decode cX12_round 74 = .ok (.iadd, 1) := dq96 bw_cX12_round_3 2 rfl rfl
theorem dX12_round_75 : decode cX12_round 75 = .ok (.istore 4, 2) := dq54 bw_cX12_round_3 3 rfl rfl
theorem dX12_round_77 : decode cX12_round 77 = .ok (.iinc 5 1, 3) := dq132 bw_cX12_round_3 5 rfl rfl rfl
theorem dX12_round_80 : decode cX12_round 80 = .ok (.goto (-45), 3) := dq167 bw_cX12_round_3 8 rfl rfl rfl
theorem dX12_round_83 : decode cX12_round 83 = .ok (.iload_n 1, 1) := dq27 bw_cX12_round_3 11 rfl rfl
theorem dX12_round_84 : decode cX12_round 84 = .ok (.ifCond .lt 9, 3) := dq155 bw_cX12_round_3 12 rfl rfl rfl
theorem dX12_round_87 : decode cX12_round 87 = .ok (.iload 4, 2) := dq21 bw_cX12_round_3 15 rfl rfl
theorem dX12_round_89 : decode cX12_round 89 = .ok (.iload_n 2, 1) := dq28 bw_cX12_round_3 17 rfl rfl
theorem dX12_round_90 : decode cX12_round 90 = .ok (.if_icmp .ge 16, 3) := dq162 bw_cX12_round_3 18 rfl rfl rfl
theorem dX12_round_93 : decode cX12_round 93 = .ok (.aload_n 0, 1) := dq42 bw_cX12_round_3 21 rfl rfl
theorem dX12_round_94 : decode cX12_round 94 = .ok (.iload_n 3, 1) := dq29 bw_cX12_round_3 22 rfl rfl
theorem dX12_round_95 : decode cX12_round 95 = .ok (.invokevirtual 292, 3) := dq182 bw_cX12_round_3 23 rfl rfl rfl
theorem bw_cX12_round_4 : dq_w cX12_round 96 [1, 36, 153, 0, 8, 29, 60, 21, 4, 61, 132, 3, 1, 167, 255, 168, 27, 156, 0, 6, 16, 254, 172, 42, 3, 181, 0] = true := by decide +kernel
theorem dX12_round_98 : decode cX12_round 98 = .ok (.ifCond .eq 8, 3) := dq153 bw_cX12_round_4 2 rfl rfl rfl
theorem dX12_round_101 : decode cX12_round 101 = .ok (.iload_n 3, 1) := dq29 bw_cX12_round_4 5 rfl rfl
theorem dX12_round_102 : decode cX12_round 102 = .ok (.istore_n 1, 1) := dq60 bw_cX12_round_4 6 rfl rfl
theorem dX12_round_103 : decode cX12_round 103 = .ok (.iload 4, 2) := dq21 bw_cX12_round_4 7 rfl rfl
theorem dX12_round_105 : decode cX12_round 105 = .ok (.istore_n 2, 1) := dq61 bw_cX12_round_4 9 rfl rfl
theorem dX12_round_106 : decode cX12_round 106 = .ok (.iinc 3 1, 3) := dq132 bw_cX12_round_4 10 rfl rfl rfl
theorem dX12_round_109 : decode cX12_round 109 = .ok (.goto (-88), 3) := dq167 bw_cX12_round_4 13 rfl rfl rfl
theorem dX12_round_112 : decode cX12_round 112 = .ok (.iload_n 1, 1) := dq27 bw_cX12_round_4 16 rfl rfl
theorem dX12_round_113 : decode cX12_round 113 = .ok (.ifCond .ge 6, 3) := dq156 bw_cX12_round_4 17 rfl rfl rfl
theorem dX12_round_116 : decode cX12_round 116 = .ok (.bipush (-2), 2) := dq16 bw_cX12_round_4 20 rfl rfl rfl
theorem dX12_round_118 : decode cX12_round 118 = .ok (.ireturn, 1) := dq172 bw_cX12_round_4 22 rfl rfl
theorem dX12_round_119 : decode cX12_round 119 = .ok (.aload_n 0, 1) := dq42 bw_cX12_round_4 23 rfl rfl
theorem bw_cX12_round_5 : dq_w cX12_round 120 [3, 181, 0, 11, 42, 27, 182, 0, 229, 28, 172] = true := by decide +kernel
theorem dX12_round_120 : decode cX12_round 120 = .ok (.iconst 0, 1) := dq3 bw_cX12_round_5 0 rfl rfl
theorem dX12_round_121 : decode cX12_round 121 = .ok (.putfield 11, 3) := dq181 bw_cX12_round_5 1 rfl rfl rfl
theorem dX12_round_124 : decode cX12_round 124 = .ok (.aload_n 0, 1) := dq42 bw_cX12_round_5 4 rfl rfl
theorem dX12_round_125 : decode cX12_round 125 = .ok (.iload_n 1, 1) := dq27 bw_cX12_round_5 5 rfl rfl
theorem dX12_round_126 : decode cX12_round 126 = .ok (.invokevirtual 229, 3) := dq182 bw_cX12_round_5 6 rfl rfl rfl
theorem dX12_round_129 : decode cX12_round 129 = .ok (.iload_n 2, 1) := dq28 bw_cX12_round_5 9 rfl rfl
theorem dX12_round_130 : decode cX12_round 130 = .ok (.ireturn, 1) := dq172 bw_cX12_round_5 10 rfl rfl
theorem bw_cJ6_numberOfTrailingZeros_0f7a4_0 : dq_w cJ6_numberOfTrailingZeros_0f7a4 0 [26, 2, 130, 26, 4, 100, 126, 59, 26, 157, 0, 8, 26, 16, 32, 126, 172, 4, 60, 26, 19, 1, 8, 164, 0, 11, 132] = true := by decide +kernel
theorem dJ6_numberOfTrailingZeros_0f7a4_0 : decode cJ6_numberOfTrailingZeros_0f7a4 0 = .ok (.iload_n 0, 1) := dq26 bw_cJ6_numberOfTrailingZeros_0f7a4_0 0 rfl rfl
theorem dJ6_numberOfTrailingZeros_0f7a4_1 : decode cJ6_numberOfTrailingZeros_0f7a4 1 = .ok (.iconst (-1), 1) := dq2 bw_cJ6_numberOfTrailingZeros_0f7a4_0 1 rfl rfl
theorem dJ6_numberOfTrailingZeros_0f7a4_2 : decode cJ6_numberOfTrailingZeros_0f7a4 2 = .ok (.ixor, 1) := dq130 bw_cJ6_numberOfTrailingZeros_0f7a4_0 2 rfl rfl
theorem dJ6_numberOfTrailingZeros_0f7a4_3 : decode cJ6_numberOfTrailingZeros_0f7a4 3 = .ok (.iload_n 0, 1) := dq26 bw_cJ6_numberOfTrailingZeros_0f7a4_0 3 rfl rfl
theorem dJ6_numberOfTrailingZeros_0f7a4_4 : decode cJ6_numberOfTrailingZeros_0f7a4 4 = .ok (.iconst 1, 1) := dq4 bw_cJ6_numberOfTrailingZeros_0f7a4_0 4 rfl rfl
theorem dJ6_numberOfTrailingZeros_0f7a4_5 : decode cJ6_numberOfTrailingZeros_0f7a4 5 = .ok (.isub, 1) := dq100 bw_cJ6_numberOfTrailingZeros_0f7a4_0 5 rfl rfl
theorem dJ6_numberOfTrailingZeros_0f7a4_6 : decode cJ6_numberOfTrailingZeros_0f7a4 6 = .ok (.iand, 1) := dq126 bw_cJ6_numberOfTrailingZeros_0f7a4_0 6 rfl rfl
theorem dJ6_numberOfTrailingZeros_0f7a4_7 : decode cJ6_numberOfTrailingZeros_0f7a4 7 = .ok (.istore_n 0, 1) := dq59 bw_cJ6_numberOfTrailingZeros_0f7a4_0 7 rfl rfl
theorem dJ6_numberOfTrailingZeros_0f7a4_8 : decode cJ6_numberOfTrailingZeros_0f7a4 8 = .ok (.iload_n 0, 1) := dq26 bw_cJ6_numberOfTrailingZeros_0f7a4_0 8 rfl rfl
theorem dJ6_numberOfTrailingZeros_0f7a4_9 : decode cJ6_numberOfTrailingZeros_0f7a4 9 = .ok (.ifCond .gt 8, 3) := dq157 bw_cJ6_numberOfTrailingZeros_0f7a4_0 9 rfl rfl rfl
theorem dJ6_numberOfTrailingZeros_0f7a4_12 : decode cJ6_numberOfTrailingZeros_0f7a4 12 = .ok (.iload_n 0, 1) := dq26 bw_cJ6_numberOfTrailingZeros_0f7a4_0 12 rfl rfl
theorem dJ6_numberOfTrailingZeros_0f7a4_13 : decode cJ6_numberOfTrailingZeros_0f7a4 13 = .ok (.bipush 32, 2) := dq16 bw_cJ6_numberOfTrailingZeros_0f7a4_0 13 rfl rfl rfl
theorem dJ6_numberOfTrailingZeros_0f7a4_15 : decode cJ6_numberOfTrailingZeros_0f7a4 15 = .ok (.iand, 1) := dq126 bw_cJ6_numberOfTrailingZeros_0f7a4_0 15 rfl rfl
theorem dJ6_numberOfTrailingZeros_0f7a4_16 : decode cJ6_numberOfTrailingZeros_0f7a4 16 = .ok (.ireturn, 1) := dq172 bw_cJ6_numberOfTrailingZeros_0f7a4_0 16 rfl rfl
theorem dJ6_numberOfTrailingZeros_0f7a4_17 : decode cJ6_numberOfTrailingZeros_0f7a4 17 = .ok (.iconst 1, 1) := dq4 bw_cJ6_numberOfTrailingZeros_0f7a4_0 17 rfl rfl
theorem dJ6_numberOfTrailingZeros_0f7a4_18 : decode cJ6_numberOfTrailingZeros_0f7a4 18 = .ok (.istore_n 1, 1) := dq60 bw_cJ6_numberOfTrailingZeros_0f7a4_0 18 rfl rfl
theorem dJ6_numberOfTrailingZeros_0f7a4_19 : decode cJ6_numberOfTrailingZeros_0f7a4 19 = .ok (.iload_n 0, 1) := dq26 bw_cJ6_numberOfTrailingZeros_0f7a4_0 19 rfl rfl
theorem dJ6_numberOfTrailingZeros_0f7a4_20 : decode cJ6_numberOfTrailingZeros_0f7a4 20 = .ok (.ldc_w 264, 3) := dq19 bw_cJ6_numberOfTrailingZeros_0f7a4_0 20 rfl rfl rfl
theorem dJ6_numberOfTrailingZeros_0f7a4_23 : decode cJ6_numberOfTrailingZeros_0f7a4 23 = .ok (.if_icmp .le 11, 3) := dq164 bw_cJ6_numberOfTrailingZeros_0f7a4_0 23 rfl rfl rfl
theorem bw_cJ6_numberOfTrailingZeros_0f7a4_1 : dq_w cJ6_numberOfTrailingZeros_0f7a4 24 [0, 11, 132, 1, 16, 26, 16, 16, 124, 59, 26, 17, 1, 0, 164, 0, 11, 132, 1, 8, 26, 16, 8, 124, 59, 26, 16] = true := by decide +kernel
theorem dJ6_numberOfTrailingZeros_0f7a4_26 : decode cJ6_numberOfTrailingZeros_0f7a4 26 = .ok (.iinc 1 16, 3) := dq132 bw_cJ6_numberOfTrailingZeros_0f7a4_1 2 rfl rfl rfl
theorem dJ6_numberOfTrailingZeros_0f7a4_29 : decode cJ6_numberOfTrailingZeros_0f7a4 29 = .ok (.iload_n 0, 1) := dq26 bw_cJ6_numberOfTrailingZeros_0f7a4_1 5 rfl rfl
theorem dJ6_numberOfTrailingZeros_0f7a4_30 : decode cJ6_numberOfTrailingZeros_0f7a4 30 = .ok (.bipush 16, 2) := dq16 bw_cJ6_numberOfTrailingZeros_0f7a4_1 6 rfl rfl rfl
theorem dJ6_numberOfTrailingZeros_0f7a4_32 : decode cJ6_numberOfTrailingZeros_0f7a4 32 = .ok (.iushr, 1) := dq124 bw_cJ6_numberOfTrailingZeros_0f7a4_1 8 rfl rfl
theorem dJ6_numberOfTrailingZeros_0f7a4_33 : decode cJ6_numberOfTrailingZeros_0f7a4 33 = .ok (.istore_n 0, 1) := dq59 bw_cJ6_numberOfTrailingZeros_0f7a4_1 9 rfl rfl
theorem dJ6_numberOfTrailingZeros_0f7a4_34 : decode cJ6_numberOfTrailingZeros_0f7a4 34 = .ok (.iload_n 0, 1) := dq26 bw_cJ6_numberOfTrailingZeros_0f7a4_1 10 rfl rfl
theorem dJ6_numberOfTrailingZeros_0f7a4_35 : decode cJ6_numberOfTrailingZeros_0f7a4 35 = .ok (.sipush 256, 3) := dq17 bw_cJ6_numberOfTrailingZeros_0f7a4_1 11 rfl rfl rfl
theorem dJ6_numberOfTrailingZeros_0f7a4_38 : decode cJ6_numberOfTrailingZeros_0f7a4 38 = .ok (.if_icmp .le 11, 3) := dq164 bw_cJ6_numberOfTrailingZeros_0f7a4_1 14 rfl rfl rfl
theorem dJ6_numberOfTrailingZeros_0f7a4_41 : decode cJ6_numberOfTrailingZeros_0f7a4 41 = .ok (.iinc 1 8, 3) := dq132 bw_cJ6_numberOfTrailingZeros_0f7a4_1 17 rfl rfl rfl
theorem dJ6_numberOfTrailingZeros_0f7a4_44 : decode cJ6_numberOfTrailingZeros_0f7a4 44 = .ok (.iload_n 0, 1) := dq26 bw_cJ6_numberOfTrailingZeros_0f7a4_1 20 rfl rfl
theorem dJ6_numberOfTrailingZeros_0f7a4_45 : decode cJ6_numberOfTrailingZeros_0f7a4 45 = .ok (.bipush 8, 2) := dq16 bw_cJ6_numberOfTrailingZeros_0f7a4_1 21 rfl rfl rfl
theorem dJ6_numberOfTrailingZeros_0f7a4_47 : decode cJ6_numberOfTrailingZeros_0f7a4 47 = .ok (.iushr, 1) := dq124 bw_cJ6_numberOfTrailingZeros_0f7a4_1 23 rfl rfl
theorem bw_cJ6_numberOfTrailingZeros_0f7a4_2 : dq_w cJ6_numberOfTrailingZeros_0f7a4 48 [59, 26, 16, 16, 164, 0, 10, 132, 1, 4, 26, 7, 124, 59, 26, 7, 164, 0, 10, 132, 1, 2, 26, 5, 124, 59, 27] = true := by decide +kernel
theorem dJ6_numberOfTrailingZeros_0f7a4_48 : decode cJ6_numberOfTrailingZeros_0f7a4 48 = .ok (.istore_n 0, 1) := dq59 bw_cJ6_numberOfTrailingZeros_0f7a4_2 0 rfl rfl
theorem dJ6_numberOfTrailingZeros_0f7a4_49 : decode cJ6_numberOfTrailingZeros_0f7a4 49 = .ok (.iload_n 0, 1) := dq26 bw_cJ6_numberOfTrailingZeros_0f7a4_2 1 rfl rfl
theorem dJ6_numberOfTrailingZeros_0f7a4_50 : decode cJ6_numberOfTrailingZeros_0f7a4 50 = .ok (.bipush 16, 2) := dq16 bw_cJ6_numberOfTrailingZeros_0f7a4_2 2 rfl rfl rfl
theorem dJ6_numberOfTrailingZeros_0f7a4_52 : decode cJ6_numberOfTrailingZeros_0f7a4 52 = .ok (.if_icmp .le 10, 3) := dq164 bw_cJ6_numberOfTrailingZeros_0f7a4_2 4 rfl rfl rfl
theorem dJ6_numberOfTrailingZeros_0f7a4_55 : decode cJ6_numberOfTrailingZeros_0f7a4 55 = .ok (.iinc 1 4, 3) := dq132 bw_cJ6_numberOfTrailingZeros_0f7a4_2 7 rfl rfl rfl
theorem dJ6_numberOfTrailingZeros_0f7a4_58 : decode cJ6_numberOfTrailingZeros_0f7a4 58 = .ok (.iload_n 0, 1) := dq26 bw_cJ6_numberOfTrailingZeros_0f7a4_2 10 rfl rfl
theorem dJ6_numberOfTrailingZeros_0f7a4_59 : decode cJ6_numberOfTrailingZeros_0f7a4 59 = .ok (.iconst 4, 1) := dq7 bw_cJ6_numberOfTrailingZeros_0f7a4_2 11 rfl rfl
theorem dJ6_numberOfTrailingZeros_0f7a4_60 : decode cJ6_numberOfTrailingZeros_0f7a4 60 = .ok (.iushr, 1) := dq124 bw_cJ6_numberOfTrailingZeros_0f7a4_2 12 rfl rfl
theorem dJ6_numberOfTrailingZeros_0f7a4_61 : decode cJ6_numberOfTrailingZeros_0f7a4 61 = .ok (.istore_n 0, 1) := dq59 bw_cJ6_numberOfTrailingZeros_0f7a4_2 13 rfl rfl
theorem dJ6_numberOfTrailingZeros_0f7a4_62 : decode cJ6_numberOfTrailingZeros_0f7a4 62 = .ok (.iload_n 0, 1) := dq26 bw_cJ6_numberOfTrailingZeros_0f7a4_2 14 rfl rfl
theorem dJ6_numberOfTrailingZeros_0f7a4_63 : decode cJ6_numberOfTrailingZeros_0f7a4 63 = .ok (.iconst 4, 1) := dq7 bw_cJ6_numberOfTrailingZeros_0f7a4_2 15 rfl rfl
theorem dJ6_numberOfTrailingZeros_0f7a4_64 : decode cJ6_numberOfTrailingZeros_0f7a4 64 = .ok (.if_icmp .le 10, 3) := dq164 bw_cJ6_numberOfTrailingZeros_0f7a4_2 16 rfl rfl rfl
theorem dJ6_numberOfTrailingZeros_0f7a4_67 : decode cJ6_numberOfTrailingZeros_0f7a4 67 = .ok (.iinc 1 2, 3) := dq132 bw_cJ6_numberOfTrailingZeros_0f7a4_2 19 rfl rfl rfl
theorem dJ6_numberOfTrailingZeros_0f7a4_70 : decode cJ6_numberOfTrailingZeros_0f7a4 70 = .ok (.iload_n 0, 1) := dq26 bw_cJ6_numberOfTrailingZeros_0f7a4_2 22 rfl rfl
theorem dJ6_numberOfTrailingZeros_0f7a4_71 : decode cJ6_numberOfTrailingZeros_0f7a4 71 = .ok (.iconst 2, 1) := dq5 bw_cJ6_numberOfTrailingZeros_0f7a4_2 23 rfl rfl
theorem bw_cJ6_numberOfTrailingZeros_0f7a4_3 : dq_w cJ6_numberOfTrailingZeros_0f7a4 72 [124, 59, 27, 26, 4, 124, 96, 172] = true := by decide +kernel
theorem dJ6_numberOfTrailingZeros_0f7a4_72 : decode cJ6_numberOfTrailingZeros_0f7a4 72 = .ok (.iushr, 1) := dq124 bw_cJ6_numberOfTrailingZeros_0f7a4_3 0 rfl rfl
theorem dJ6_numberOfTrailingZeros_0f7a4_73 : decode cJ6_numberOfTrailingZeros_0f7a4 73 = .ok (.istore_n 0, 1) := dq59 bw_cJ6_numberOfTrailingZeros_0f7a4_3 1 rfl rfl
theorem dJ6_numberOfTrailingZeros_0f7a4_74 : decode cJ6_numberOfTrailingZeros_0f7a4 74 = .ok (.iload_n 1, 1) := dq27 bw_cJ6_numberOfTrailingZeros_0f7a4_3 2 rfl rfl
theorem dJ6_numberOfTrailingZeros_0f7a4_75 : decode cJ6_numberOfTrailingZeros_0f7a4 75 = .ok (.iload_n 0, 1) := dq26 bw_cJ6_numberOfTrailingZeros_0f7a4_3 3 rfl rfl
theorem dJ6_numberOfTrailingZeros_0f7a4_76 : decode cJ6_numberOfTrailingZeros_0f7a4 76 = .ok (.iconst 1, 1) := dq4 bw_cJ6_numberOfTrailingZeros_0f7a4_3 4 rfl rfl
theorem dJ6_numberOfTrailingZeros_0f7a4_77 : decode cJ6_numberOfTrailingZeros_0f7a4 77 = .ok (.iushr, 1) := dq124 bw_cJ6_numberOfTrailingZeros_0f7a4_3 5 rfl rfl
theorem dJ6_numberOfTrailingZeros_0f7a4_78 : decode cJ6_numberOfTrailingZeros_0f7a4 78 = .ok (.iadd, 1) := dq96 bw_cJ6_numberOfTrailingZeros_0f7a4_3 6 rfl rfl
theorem dJ6_numberOfTrailingZeros_0f7a4_79 : decode cJ6_numberOfTrailingZeros_0f7a4 79 = .ok (.ireturn, 1) := dq172 bw_cJ6_numberOfTrailingZeros_0f7a4_3 7 rfl rfl
theorem bw_cX12_isLessRow_0 : dq_w cX12_isLessRow 0 [3, 60, 27, 42, 180, 1, 39, 162, 0, 45, 42, 180, 1, 42, 27, 46, 42, 180, 1, 45, 27, 46, 159, 0, 24, 42, 180] = true := by decide +kernel
theorem dX12_isLessRow_0 : decode cX12_isLessRow 0 = .ok (.iconst 0, 1) := dq3 bw_cX12_isLessRow_0 0 rfl rfl
theorem dX12_isLessRow_1 : decode cX12_isLessRow 1 = .ok (.istore_n 1, 1) := dq60 bw_cX12_isLessRow_0 1 rfl rfl
theorem dX12_isLessRow_2 : decode cX12_isLessRow 2 = .ok (.iload_n 1, 1) := dq27 bw_cX12_isLessRow_0 2 rfl rfl
theorem dX12_isLessRow_3 : decode cX12_isLessRow 3 = .ok (.aload_n 0, 1) := dq42 bw_cX12_isLessRow_0 3 rfl rfl
theorem dX12_isLessRow_4 : decode cX12_isLessRow 4 = .ok (.getfield 295, 3) := dq180 bw_cX12_isLessRow_0 4 rfl rfl rfl
theorem dX12_isLessRow_7 : decode cX12_isLessRow 7 = .ok (.if_icmp .ge 45, 3) := dq162 bw_cX12_isLessRow_0 7 rfl rfl rfl
theorem dX12_isLessRow_10 : decode cX12_isLessRow 10 = .ok (.aload_n 0, 1) := dq42 bw_cX12_isLessRow_0 10 rfl rfl
theorem dX12_isLessRow_11 : decode cX12_isLessRow 11 = .ok (.getfield 298, 3) := dq180 bw_cX12_isLessRow_0 11 rfl rfl rfl
theorem dX12_isLessRow_14 : decode cX12_isLessRow 14 = .ok (.iload_n 1, 1) := dq27 bw_cX12_isLessRow_0 14 rfl rfl
theorem dX12_isLessRow_15 : decode cX12_isLessRow 15 = .ok (.iaload, 1) := dq46 bw_cX12_isLessRow_0 15 rfl rfl
theorem dX12_isLessRow_16 : decode cX12_isLessRow 16 = .ok (.aload_n 0, 1) := dq42 bw_cX12_isLessRow_0 16 rfl rfl
theorem dX12_isLessRow_17 : decode cX12_isLessRow 17 = .ok (.getfield 301, 3) := dq180 bw_cX12_isLessRow_0 17 rfl rfl rfl
theorem dX12_isLessRow_20 : decode cX12_isLessRow 20 = .ok (.iload_n 1, 1) := dq27 bw_cX12_isLessRow_0 20 rfl rfl
theorem dX12_isLessRow_21 : decode cX12_isLessRow 21 = .ok (.iaload, 1) := dq46 bw_cX12_isLessRow_0 21 rfl rfl
theorem dX12_isLessRow_22 : decode cX12_isLessRow 22 = .ok (.if_icmp .eq 24, 3) := dq159 bw_cX12_isLessRow_0 22 rfl rfl rfl
theorem bw_cX12_isLessRow_1 : dq_w cX12_isLessRow 24 [24, 42, 180, 1, 42, 27, 46, 42, 180, 1, 45, 27, 46, 162, 0, 7, 4, 167, 0, 4, 3, 172, 132, 1, 1, 167, 255] = true := by decide +kernel
theorem dX12_isLessRow_25 : decode cX12_isLessRow 25 = .ok (.aload_n 0, 1) := dq42 bw_cX12_isLessRow_1 1 rfl rfl
theorem dX12_isLessRow_26 : decode cX12_isLessRow 26 = .ok (.getfield 298, 3) := dq180 bw_cX12_isLessRow_1 2 rfl rfl rfl
theorem dX12_isLessRow_29 : decode cX12_isLessRow 29 = .ok (.iload_n 1, 1) := dq27 bw_cX12_isLessRow_1 5 rfl rfl
theorem dX12_isLessRow_30 : decode cX12_isLessRow 30 = .ok (.iaload, 1) := dq46 bw_cX12_isLessRow_1 6 rfl rfl
theorem dX12_isLessRow_31 : decode cX12_isLessRow 31 = .ok (.aload_n 0, 1) := dq42 bw_cX12_isLessRow_1 7 rfl rfl
theorem dX12_isLessRow_32 : decode cX12_isLessRow 32 = .ok (.getfield 301, 3) := dq180 bw_cX12_isLessRow_1 8 rfl rfl rfl
theorem dX12_isLessRow_35 : decode cX12_isLessRow 35 = .ok (.iload_n 1, 1) := dq27 bw_cX12_isLessRow_1 11 rfl rfl
theorem dX12_isLessRow_36 : decode cX12_isLessRow 36 = .ok (.iaload, 1) := dq46 bw_cX12_isLessRow_1 12 rfl rfl
theorem dX12_isLessRow_37 : decode cX12_isLessRow 37 = .ok (.if_icmp .ge 7, 3) := dq162 bw_cX12_isLessRow_1 13 rfl rfl rfl
theorem dX12_isLessRow_40 : decode cX12_isLessRow 40 = .ok (.iconst 1, 1) := dq4 bw_cX12_isLessRow_1 16 rfl rfl
theorem dX12_isLessRow_41 : decode cX12_isLessRow 41 = .ok (.goto 4, 3) := dq167 bw_cX12_isLessRow_1 17 rfl rfl rfl
theorem dX12_isLessRow_44 : decode cX12_isLessRow 44 = .ok (.iconst 0, 1) := dq3 bw_cX12_isLessRow_1 20 rfl rfl
theorem dX12_isLessRow_45 : decode cX12_isLessRow 45 = .ok (.ireturn, 1) := dq172 bw_cX12_isLessRow_1 21 rfl rfl
theorem dX12_isLessRow_46 : decode cX12_isLessRow 46 = .ok (.iinc 1 1, 3) := dq132 bw_cX12_isLessRow_1 22 rfl rfl rfl
theorem bw_cX12_isLessRow_2 : dq_w cX12_isLessRow 48 [1, 167, 255, 209, 3, 172] = true := by decide +kernel
theorem dX12_isLessRow_49 : decode cX12_isLessRow 49 = .ok (.goto (-47), 3) := dq167 bw_cX12_isLessRow_2 1 rfl rfl rfl
theorem dX12_isLessRow_52 : decode cX12_isLessRow 52 = .ok (.iconst 0, 1) := dq3 bw_cX12_isLessRow_2 4 rfl rfl
theorem dX12_isLessRow_53 : decode cX12_isLessRow 53 = .ok (.ireturn, 1) := dq172 bw_cX12_isLessRow_2 5 rfl rfl
theorem bw_cX12_couples_0 : dq_w cX12_couples 0 [27, 154, 0, 95, 28, 154, 0, 37, 42, 180, 1, 48, 155, 0, 26, 29, 42, 180, 1, 48, 161, 0, 18, 29, 42, 180, 1] = true := by decide +kernel
theorem dX12_couples_0 : decode cX12_couples 0 = .ok (.iload_n 1, 1) := dq27 bw_cX12_couples_0 0 rfl rfl
theorem dX12_couples_1 : decode cX12_couples 1 = .ok (.ifCond .ne 95, 3) := dq154 bw_cX12_couples_0 1 rfl rfl rfl
theorem dX12_couples_4 : decode cX12_couples 4 = .ok (.iload_n 2, 1) := dq28 bw_cX12_couples_0 4 rfl rfl
theorem dX12_couples_5 : decode cX12_couples 5 = .ok (.ifCond .ne 37, 3) := dq154 bw_cX12_couples_0 5 rfl rfl rfl
theorem dX12_couples_8 : decode cX12_couples 8 = .ok (.aload_n 0, 1) := dq42 bw_cX12_couples_0 8 rfl rfl
theorem dX12_couples_9 : decode cX12_couples 9 = .ok (.getfield 304, 3) := dq180 bw_cX12_couples_0 9 rfl rfl rfl
theorem dX12_couples_12 : decode cX12_couples 12 = .ok (.ifCond .lt 26, 3) := dq155 bw_cX12_couples_0 12 rfl rfl rfl
theorem dX12_couples_15 : decode cX12_couples 15 = .ok (.iload_n 3, 1) := dq29 bw_cX12_couples_0 15 rfl rfl
theorem dX12_couples_16 : decode cX12_couples 16 = .ok (.aload_n 0, 1) := dq42 bw_cX12_couples_0 16 rfl rfl
theorem dX12_couples_17 : decode cX12_couples 17 = .ok (.getfield 304, 3) := dq180 bw_cX12_couples_0 17 rfl rfl rfl
theorem dX12_couples_20 : decode cX12_couples 20 = .ok (.if_icmp .lt 18, 3) := dq161 bw_cX12_couples_0 20 rfl rfl rfl
theorem dX12_couples_23 : decode cX12_couples 23 = .ok (.iload_n 3, 1) := dq29 bw_cX12_couples_0 23 rfl rfl
theorem bw_cX12_couples_1 : dq_w cX12_couples 24 [42, 180, 1, 48, 160, 0, 14, 42, 182, 1, 51, 153, 0, 7, 4, 167, 0, 4, 3, 54, 4, 21, 4, 153, 0, 48, 42] = true := by decide +kernel
theorem dX12_couples_24 : decode cX12_couples 24 = .ok (.aload_n 0, 1) := dq42 bw_cX12_couples_1 0 rfl rfl
theorem dX12_couples_25 : decode cX12_couples 25 = .ok (.getfield 304, 3) := dq180 bw_cX12_couples_1 1 rfl rfl rfl
theorem dX12_couples_28 : decode cX12_couples 28 = .ok (.if_icmp .ne 14, 3) := dq160 bw_cX12_couples_1 4 rfl rfl rfl
theorem dX12_couples_31 : decode cX12_couples 31 = .ok (.aload_n 0, 1) := dq42 bw_cX12_couples_1 7 rfl rfl
theorem dX12_couples_32 : decode cX12_couples 32 = .ok (.invokevirtual 307, 3) := dq182 bw_cX12_couples_1 8 rfl rfl rfl
theorem dX12_couples_35 : decode cX12_couples 35 = .ok (.ifCond .eq 7, 3) := dq153 bw_cX12_couples_1 11 rfl rfl rfl
theorem dX12_couples_38 : decode cX12_couples 38 = .ok (.iconst 1, 1) := dq4 bw_cX12_couples_1 14 rfl rfl
theorem dX12_couples_39 : decode cX12_couples 39 = .ok (.goto 4, 3) := dq167 bw_cX12_couples_1 15 rfl rfl rfl
theorem dX12_couples_42 : decode cX12_couples 42 = .ok (.iconst 0, 1) := dq3 bw_cX12_couples_1 18 rfl rfl
theorem dX12_couples_43 : decode cX12_couples 43 = .ok (.istore 4, 2) := dq54 bw_cX12_couples_1 19 rfl rfl
theorem dX12_couples_45 : decode cX12_couples 45 = .ok (.iload 4, 2) := dq21 bw_cX12_couples_1 21 rfl rfl
theorem dX12_couples_47 : decode cX12_couples 47 = .ok (.ifCond .eq 48, 3) := dq153 bw_cX12_couples_1 23 rfl rfl rfl
theorem bw_cX12_couples_2 : dq_w cX12_couples 48 [0, 48, 42, 29, 181, 1, 48, 42, 42, 180, 1, 39, 181, 1, 54, 3, 54, 5, 21, 5, 42, 180, 1, 39, 162, 0, 23] = true := by decide +kernel
theorem dX12_couples_50 : decode cX12_couples 50 = .ok (.aload_n 0, 1) := dq42 bw_cX12_couples_2 2 rfl rfl
theorem dX12_couples_51 : decode cX12_couples 51 = .ok (.iload_n 3, 1) := dq29 bw_cX12_couples_2 3 rfl rfl
theorem dX12_couples_52 : decode cX12_couples 52 = .ok (.putfield 304, 3) := dq181 bw_cX12_couples_2 4 rfl rfl rfl
theorem dX12_couples_55 : decode cX12_couples 55 = .ok (.aload_n 0, 1) := dq42 bw_cX12_couples_2 7 rfl rfl
theorem dX12_couples_56 : decode cX12_couples 56 = .ok (.aload_n 0, 1) := dq42 bw_cX12_couples_2 8 rfl rfl
theorem dX12_couples_57 : decode cX12_couples 57 = .ok (.getfield 295, 3) := dq180 bw_cX12_couples_2 9 rfl rfl rfl
theorem dX12_couples_60 : decode cX12_couples 60 = .ok (.putfield 310, 3) := dq181 bw_cX12_couples_2 12 rfl rfl rfl
theorem dX12_couples_63 : decode cX12_couples 63 = .ok (.iconst 0, 1) := dq3 bw_cX12_couples_2 15 rfl rfl
theorem dX12_couples_64 : decode cX12_couples 64 = .ok (.istore 5, 2) := dq54 bw_cX12_couples_2 16 rfl rfl
theorem dX12_couples_66 : decode cX12_couples 66 = .ok (.iload 5, 2) := dq21 bw_cX12_couples_2 18 rfl rfl
theorem dX12_couples_68 : decode cX12_couples 68 = .ok (.aload_n 0, 1) := dq42 bw_cX12_couples_2 20 rfl rfl
theorem dX12_couples_69 : decode cX12_couples 69 = .ok (.getfield 295, 3) := dq180 bw_cX12_couples_2 21 rfl rfl rfl
theorem bw_cX12_couples_3 : dq_w cX12_couples 72 [162, 0, 23, 42, 180, 1, 45, 21, 5, 42, 180, 1, 42, 21, 5, 46, 79, 132, 5, 1, 167, 255, 230, 177, 27, 184, 1] = true := by decide +kernel
theorem dX12_couples_72 : decode cX12_couples 72 = .ok (.if_icmp .ge 23, 3) := dq162 bw_cX12_couples_3 0 rfl rfl rfl
theorem dX12_couples_75 : decode cX12_couples 75 = .ok (.aload_n 0, 1) := dq42 bw_cX12_couples_3 3 rfl rfl
theorem dX12_couples_76 : decode cX12_couples 76 = .ok (.getfield 301, 3) := dq180 bw_cX12_couples_3 4 rfl rfl rfl
theorem dX12_couples_79 : decode cX12_couples 79 = .ok (.iload 5, 2) := dq21 bw_cX12_couples_3 7 rfl rfl
theorem dX12_couples_81 : decode cX12_couples 81 = .ok (.aload_n 0, 1) := dq42 bw_cX12_couples_3 9 rfl rfl
theorem dX12_couples_82 : decode cX12_couples 82 = .ok (.getfield 298, 3) := dq180 bw_cX12_couples_3 10 rfl rfl rfl
theorem dX12_couples_85 : decode cX12_couples 85 = .ok (.iload 5, 2) := dq21 bw_cX12_couples_3 13 rfl rfl
theorem dX12_couples_87 : decode cX12_couples 87 = .ok (.iaload, 1) := dq46 bw_cX12_couples_3 15 rfl rfl
theorem dX12_couples_88 : decode cX12_couples 88 = .ok (.iastore, 1) := dq79 bw_cX12_couples_3 16 rfl rfl
theorem dX12_couples_89 : decode cX12_couples 89 = .ok (.iinc 5 1, 3) := dq132 bw_cX12_couples_3 17 rfl rfl rfl
theorem dX12_couples_92 : decode cX12_couples 92 = .ok (.goto (-26), 3) := dq167 bw_cX12_couples_3 20 rfl rfl rfl
theorem dX12_couples_95 : decode cX12_couples 95 = .ok (.return_, 1) := dq177 bw_cX12_couples_3 23 rfl rfl
theorem bw_cX12_couples_4 : dq_w cX12_couples 96 [27, 184, 1, 57, 54, 4, 27, 4, 21, 4, 120, 2, 130, 126, 54, 5, 21, 4, 4, 96, 54, 6, 21, 6, 42, 180, 0] = true := by decide +kernel
theorem dX12_couples_96 : decode cX12_couples 96 = .ok (.iload_n 1, 1) := dq27 bw_cX12_couples_4 0 rfl rfl
theorem dX12_couples_97 : decode cX12_couples 97 = .ok (.invokestatic 313, 3) := dq184 bw_cX12_couples_4 1 rfl rfl rfl
theorem dX12_couples_100 : decode cX12_couples 100 = .ok (.istore 4, 2) := dq54 bw_cX12_couples_4 4 rfl rfl
theorem dX12_couples_102 : decode cX12_couples 102 = .ok (.iload_n 1, 1) := dq27 bw_cX12_couples_4 6 rfl rfl
theorem dX12_couples_103 : decode cX12_couples 103 = .ok (.iconst 1, 1) := dq4 bw_cX12_couples_4 7 rfl rfl
theorem dX12_couples_104 : decode cX12_couples 104 = .ok (.iload 4, 2) := dq21 bw_cX12_couples_4 8 rfl rfl
theorem dX12_couples_106 : decode cX12_couples 106 = .ok (.ishl, 1) := dq120 bw_cX12_couples_4 10 rfl rfl
theorem dX12_couples_107 : decode cX12_couples 107 = .ok (.iconst (-1), 1) := dq2 bw_cX12_couples_4 11 rfl rfl
theorem dX12_couples_108 : decode cX12_couples 108 = .ok (.ixor, 1) := dq130 bw_cX12_couples_4 12 rfl rfl
theorem dX12_couples_109 : decode cX12_couples 109 = .ok (.iand, 1) := dq126 bw_cX12_couples_4 13 rfl rfl
theorem dX12_couples_110 : decode cX12_couples 110 = .ok (.istore 5, 2) := dq54 bw_cX12_couples_4 14 rfl rfl
theorem dX12_couples_112 : decode cX12_couples 112 = .ok (.iload 4, 2) := dq21 bw_cX12_couples_4 16 rfl rfl
theorem dX12_couples_114 : decode cX12_couples 114 = .ok (.iconst 1, 1) := dq4 bw_cX12_couples_4 18 rfl rfl
theorem dX12_couples_115 : decode cX12_couples 115 = .ok (.iadd, 1) := dq96 bw_cX12_couples_4 19 rfl rfl
theorem dX12_couples_116 : decode cX12_couples 116 = .ok (.istore 6, 2) := dq54 bw_cX12_couples_4 20 rfl rfl
theorem dX12_couples_118 : decode cX12_couples 118 = .ok (.iload 6, 2) := dq21 bw_cX12_couples_4 22 rfl rfl
theorem bw_cX12_couples_5 : dq_w cX12_couples 120 [42, 180, 0, 14, 162, 0, 87, 21, 5, 21, 6, 184, 0, 144, 153, 0, 71, 42, 180, 1, 42, 42, 180, 1, 39, 21, 4] = true := by decide +kernel
theorem dX12_couples_120 : decode cX12_couples 120 = .ok (.aload_n 0, 1) := dq42 bw_cX12_couples_5 0 rfl rfl
theorem dX12_couples_121 : decode cX12_couples 121 = .ok (.getfield 14, 3) := dq180 bw_cX12_couples_5 1 rfl rfl rfl
theorem dX12_couples_124 : decode cX12_couples 124 = .ok (.if_icmp .ge 87, 3) := dq162 bw_cX12_couples_5 4 rfl rfl rfl
theorem dX12_couples_127 : decode cX12_couples 127 = .ok (.iload 5, 2) := dq21 bw_cX12_couples_5 7 rfl rfl
theorem dX12_couples_129 : decode cX12_couples 129 = .ok (.iload 6, 2) := dq21 bw_cX12_couples_5 9 rfl rfl
theorem dX12_couples_131 : decode cX12_couples 131 = .ok (.invokestatic 144, 3) := dq184 bw_cX12_couples_5 11 rfl rfl rfl
theorem dX12_couples_134 : decode cX12_couples 134 = .ok (.ifCond .eq 71, 3) := dq153 bw_cX12_couples_5 14 rfl rfl rfl
theorem dX12_couples_137 : decode cX12_couples 137 = .ok (.aload_n 0, 1) := dq42 bw_cX12_couples_5 17 rfl rfl
theorem dX12_couples_138 : decode cX12_couples 138 = .ok (.getfield 298, 3) := dq180 bw_cX12_couples_5 18 rfl rfl rfl
theorem dX12_couples_141 : decode cX12_couples 141 = .ok (.aload_n 0, 1) := dq42 bw_cX12_couples_5 21 rfl rfl
theorem dX12_couples_142 : decode cX12_couples 142 = .ok (.getfield 295, 3) := dq180 bw_cX12_couples_5 22 rfl rfl rfl
theorem bw_cX12_couples_6 : dq_w cX12_couples 144 [39, 21, 4, 79, 42, 180, 1, 42, 42, 180, 1, 39, 4, 96, 21, 6, 79, 42, 89, 180, 1, 39, 5, 96, 181, 1, 39] = true := by decide +kernel
theorem dX12_couples_145 : decode cX12_couples 145 = .ok (.iload 4, 2) := dq21 bw_cX12_couples_6 1 rfl rfl
theorem dX12_couples_147 : decode cX12_couples 147 = .ok (.iastore, 1) := dq79 bw_cX12_couples_6 3 rfl rfl
theorem dX12_couples_148 : decode cX12_couples 148 = .ok (.aload_n 0, 1) := dq42 bw_cX12_couples_6 4 rfl rfl
theorem dX12_couples_149 : decode cX12_couples 149 = .ok (.getfield 298, 3) := dq180 bw_cX12_couples_6 5 rfl rfl rfl
theorem dX12_couples_152 : decode cX12_couples 152 = .ok (.aload_n 0, 1) := dq42 bw_cX12_couples_6 8 rfl rfl
theorem dX12_couples_153 : decode cX12_couples 153 = .ok (.getfield 295, 3) := dq180 bw_cX12_couples_6 9 rfl rfl rfl
theorem dX12_couples_156 : decode cX12_couples 156 = .ok (.iconst 1, 1) := dq4 bw_cX12_couples_6 12 rfl rfl
theorem dX12_couples_157 : decode cX12_couples 157 = .ok (.iadd, 1) := dq96 bw_cX12_couples_6 13 rfl rfl
theorem dX12_couples_158 : decode cX12_couples 158 = .ok (.iload 6, 2) := dq21 bw_cX12_couples_6 14 rfl rfl
theorem dX12_couples_160 : decode cX12_couples 160 = .ok (.iastore, 1) := dq79 bw_cX12_couples_6 16 rfl rfl
theorem dX12_couples_161 : decode cX12_couples 161 = .ok (.aload_n 0, 1) := dq42 bw_cX12_couples_6 17 rfl rfl
theorem dX12_couples_162 : decode cX12_couples 162 = .ok (.dup, 1) := dq89 bw_cX12_couples_6 18 rfl rfl
theorem dX12_couples_163 : decode cX12_couples 163 = .ok (.getfield 295, 3) := dq180 bw_cX12_couples_6 19 rfl rfl rfl
theorem dX12_couples_166 : decode cX12_couples 166 = .ok (.iconst 2, 1) := dq5 bw_cX12_couples_6 22 rfl rfl
theorem dX12_couples_167 : decode cX12_couples 167 = .ok (.iadd, 1) := dq96 bw_cX12_couples_6 23 rfl rfl
theorem bw_cX12_couples_7 : dq_w cX12_couples 168 [181, 1, 39, 42, 21, 5, 4, 21, 6, 120, 2, 130, 126, 28, 29, 42, 21, 4, 21, 6, 182, 0, 160, 96, 182, 1, 60] = true := by decide +kernel
theorem dX12_couples_168 : decode cX12_couples 168 = .ok (.putfield 295, 3) := dq181 bw_cX12_couples_7 0 rfl rfl rfl
theorem dX12_couples_171 : decode cX12_couples 171 = .ok (.aload_n 0, 1) := dq42 bw_cX12_couples_7 3 rfl rfl
theorem dX12_couples_172 : decode cX12_couples 172 = .ok (.iload 5, 2) := dq21 bw_cX12_couples_7 4 rfl rfl
theorem dX12_couples_174 : decode cX12_couples 174 = .ok (.iconst 1, 1) := dq4 bw_cX12_couples_7 6 rfl rfl
theorem dX12_couples_175 : decode cX12_couples 175 = .ok (.iload 6, 2) := dq21 bw_cX12_couples_7 7 rfl rfl
theorem dX12_couples_177 : decode cX12_couples 177 = .ok (.ishl, 1) := dq120 bw_cX12_couples_7 9 rfl rfl
theorem dX12_couples_178 : decode cX12_couples 178 = .ok (.iconst (-1), 1) := dq2 bw_cX12_couples_7 10 rfl rfl
theorem dX12_couples_179 : decode cX12_couples 179 = .ok (.ixor, 1) := dq130 bw_cX12_couples_7 11 rfl rfl
theorem dX12_couples_180 : decode cX12_couples 180 = .ok (.iand, 1) := dq126 bw_cX12_couples_7 12 rfl rfl
theorem dX12_couples_181 : decode cX12_couples 181 = .ok (.iload_n 2, 1) := dq28 bw_cX12_couples_7 13 rfl rfl
theorem dX12_couples_182 : decode cX12_couples 182 = .ok (.iload_n 3, 1) := dq29 bw_cX12_couples_7 14 rfl rfl
theorem dX12_couples_183 : decode cX12_couples 183 = .ok (.aload_n 0, 1) := dq42 bw_cX12_couples_7 15 rfl rfl
theorem dX12_couples_184 : decode cX12_couples 184 = .ok (.iload 4, 2) := dq21 bw_cX12_couples_7 16 rfl rfl
theorem dX12_couples_186 : decode cX12_couples 186 = .ok (.iload 6, 2) := dq21 bw_cX12_couples_7 18 rfl rfl
theorem dX12_couples_188 : decode cX12_couples 188 = .ok (.invokevirtual 160, 3) := dq182 bw_cX12_couples_7 20 rfl rfl rfl
theorem dX12_couples_191 : decode cX12_couples 191 = .ok (.iadd, 1) := dq96 bw_cX12_couples_7 23 rfl rfl
theorem bw_cX12_couples_8 : dq_w cX12_couples 192 [182, 1, 60, 42, 89, 180, 1, 39, 5, 100, 181, 1, 39, 132, 6, 1, 167, 255, 166, 28, 158, 0, 13, 42, 21, 5, 28] = true := by decide +kernel
theorem dX12_couples_192 : decode cX12_couples 192 = .ok (.invokevirtual 316, 3) := dq182 bw_cX12_couples_8 0 rfl rfl rfl
theorem dX12_couples_195 : decode cX12_couples 195 = .ok (.aload_n 0, 1) := dq42 bw_cX12_couples_8 3 rfl rfl
theorem dX12_couples_196 : decode cX12_couples 196 = .ok (.dup, 1) := dq89 bw_cX12_couples_8 4 rfl rfl
theorem dX12_couples_197 : decode cX12_couples 197 = .ok (.getfield 295, 3) := dq180 bw_cX12_couples_8 5 rfl rfl rfl
theorem dX12_couples_200 : decode cX12_couples 200 = .ok (.iconst 2, 1) := dq5 bw_cX12_couples_8 8 rfl rfl
theorem dX12_couples_201 : decode cX12_couples 201 = .ok (.isub, 1) := dq100 bw_cX12_couples_8 9 rfl rfl
theorem dX12_couples_202 : decode cX12_couples 202 = .ok (.putfield 295, 3) := dq181 bw_cX12_couples_8 10 rfl rfl rfl
theorem dX12_couples_205 : decode cX12_couples 205 = .ok (.iinc 6 1, 3) := dq132 bw_cX12_couples_8 13 rfl rfl rfl
theorem dX12_couples_208 : decode cX12_couples 208 = .ok (.goto (-90), 3) := dq167 bw_cX12_couples_8 16 rfl rfl rfl
theorem dX12_couples_211 : decode cX12_couples 211 = .ok (.iload_n 2, 1) := dq28 bw_cX12_couples_8 19 rfl rfl
theorem dX12_couples_212 : decode cX12_couples 212 = .ok (.ifCond .le 13, 3) := dq158 bw_cX12_couples_8 20 rfl rfl rfl
theorem dX12_couples_215 : decode cX12_couples 215 = .ok (.aload_n 0, 1) := dq42 bw_cX12_couples_8 23 rfl rfl
theorem bw_cX12_couples_9 : dq_w cX12_couples 216 [21, 5, 28, 4, 100, 29, 182, 1, 60, 177] = true := by decide +kernel
theorem dX12_couples_216 : decode cX12_couples 216 = .ok (.iload 5, 2) := dq21 bw_cX12_couples_9 0 rfl rfl
theorem dX12_couples_218 : decode cX12_couples 218 = .ok (.iload_n 2, 1) := dq28 bw_cX12_couples_9 2 rfl rfl
theorem dX12_couples_219 : decode cX12_couples 219 = .ok (.iconst 1, 1) := dq4 bw_cX12_couples_9 3 rfl rfl
theorem dX12_couples_220 : decode cX12_couples 220 = .ok (.isub, 1) := dq100 bw_cX12_couples_9 4 rfl rfl
theorem dX12_couples_221 : decode cX12_couples 221 = .ok (.iload_n 3, 1) := dq29 bw_cX12_couples_9 5 rfl rfl
theorem dX12_couples_222 : decode cX12_couples 222 = .ok (.invokevirtual 316, 3) := dq182 bw_cX12_couples_9 6 rfl rfl rfl
theorem dX12_couples_225 : decode cX12_couples 225 = .ok (.return_, 1) := dq177 bw_cX12_couples_9 9 rfl rfl
theorem bw_cX12_pairsBy_0 : dq_w cX12_pairsBy 0 [42, 182, 1, 33, 154, 0, 6, 16, 254, 172, 42, 2, 181, 1, 48, 42, 3, 181, 1, 39, 42, 42, 182, 1, 10, 182, 1] = true := by decide +kernel
theorem dX12_pairsBy_0 : decode cX12_pairsBy 0 = .ok (.aload_n 0, 1) := dq42 bw_cX12_pairsBy_0 0 rfl rfl
theorem dX12_pairsBy_1 : decode cX12_pairsBy 1 = .ok (.invokevirtual 289, 3) := dq182 bw_cX12_pairsBy_0 1 rfl rfl rfl
theorem dX12_pairsBy_4 : decode cX12_pairsBy 4 = .ok (.ifCond .ne 6, 3) := dq154 bw_cX12_pairsBy_0 4 rfl rfl rfl
theorem dX12_pairsBy_7 : decode cX12_pairsBy 7 = .ok (.bipush (-2), 2) := dq16 bw_cX12_pairsBy_0 7 rfl rfl rfl
theorem dX12_pairsBy_9 : decode cX12_pairsBy 9 = .ok (.ireturn, 1) := dq172 bw_cX12_pairsBy_0 9 rfl rfl
theorem dX12_pairsBy_10 : decode cX12_pairsBy 10 = .ok (.aload_n 0, 1) := dq42 bw_cX12_pairsBy_0 10 rfl rfl
theorem dX12_pairsBy_11 : decode cX12_pairsBy 11 = .ok (.iconst (-1), 1) := dq2 bw_cX12_pairsBy_0 11 rfl rfl
theorem dX12_pairsBy_12 : decode cX12_pairsBy 12 = .ok (.putfield 304, 3) := dq181 bw_cX12_pairsBy_0 12 rfl rfl rfl
theorem dX12_pairsBy_15 : decode cX12_pairsBy 15 = .ok (.aload_n 0, 1) := dq42 bw_cX12_pairsBy_0 15 rfl rfl
theorem dX12_pairsBy_16 : decode cX12_pairsBy 16 = .ok (.iconst 0, 1) := dq3 bw_cX12_pairsBy_0 16 rfl rfl
theorem dX12_pairsBy_17 : decode cX12_pairsBy 17 = .ok (.putfield 295, 3) := dq181 bw_cX12_pairsBy_0 17 rfl rfl rfl
theorem dX12_pairsBy_20 : decode cX12_pairsBy 20 = .ok (.aload_n 0, 1) := dq42 bw_cX12_pairsBy_0 20 rfl rfl
theorem dX12_pairsBy_21 : decode cX12_pairsBy 21 = .ok (.aload_n 0, 1) := dq42 bw_cX12_pairsBy_0 21 rfl rfl
theorem dX12_pairsBy_22 : decode cX12_pairsBy 22 = .ok (.invokevirtual 266, 3) := dq182 bw_cX12_pairsBy_0 22 rfl rfl rfl
theorem bw_cX12_pairsBy_1 : dq_w cX12_pairsBy 24 [10, 182, 1, 13, 61, 42, 28, 28, 154, 0, 7, 3, 167, 0, 4, 27, 3, 182, 1, 60, 42, 3, 181, 0, 11, 3, 62] = true := by decide +kernel
theorem dX12_pairsBy_25 : decode cX12_pairsBy 25 = .ok (.invokevirtual 269, 3) := dq182 bw_cX12_pairsBy_1 1 rfl rfl rfl
theorem dX12_pairsBy_28 : decode cX12_pairsBy 28 = .ok (.istore_n 2, 1) := dq61 bw_cX12_pairsBy_1 4 rfl rfl
theorem dX12_pairsBy_29 : decode cX12_pairsBy 29 = .ok (.aload_n 0, 1) := dq42 bw_cX12_pairsBy_1 5 rfl rfl
theorem dX12_pairsBy_30 : decode cX12_pairsBy 30 = .ok (.iload_n 2, 1) := dq28 bw_cX12_pairsBy_1 6 rfl rfl
theorem dX12_pairsBy_31 : decode cX12_pairsBy 31 = .ok (.iload_n 2, 1) := dq28 bw_cX12_pairsBy_1 7 rfl rfl
theorem dX12_pairsBy_32 : decode cX12_pairsBy 32 = .ok (.ifCond .ne 7, 3) := dq154 bw_cX12_pairsBy_1 8 rfl rfl rfl
theorem dX12_pairsBy_35 : decode cX12_pairsBy 35 = .ok (.iconst 0, 1) := dq3 bw_cX12_pairsBy_1 11 rfl rfl
theorem dX12_pairsBy_36 : decode cX12_pairsBy 36 = .ok (.goto 4, 3) := dq167 bw_cX12_pairsBy_1 12 rfl rfl rfl
theorem dX12_pairsBy_39 : decode cX12_pairsBy 39 = .ok (.iload_n 1, 1) := dq27 bw_cX12_pairsBy_1 15 rfl rfl
theorem dX12_pairsBy_40 : decode cX12_pairsBy 40 = .ok (.iconst 0, 1) := dq3 bw_cX12_pairsBy_1 16 rfl rfl
theorem dX12_pairsBy_41 : decode cX12_pairsBy 41 = .ok (.invokevirtual 316, 3) := dq182 bw_cX12_pairsBy_1 17 rfl rfl rfl
theorem dX12_pairsBy_44 : decode cX12_pairsBy 44 = .ok (.aload_n 0, 1) := dq42 bw_cX12_pairsBy_1 20 rfl rfl
theorem dX12_pairsBy_45 : decode cX12_pairsBy 45 = .ok (.iconst 0, 1) := dq3 bw_cX12_pairsBy_1 21 rfl rfl
theorem dX12_pairsBy_46 : decode cX12_pairsBy 46 = .ok (.putfield 11, 3) := dq181 bw_cX12_pairsBy_1 22 rfl rfl rfl
theorem bw_cX12_pairsBy_2 : dq_w cX12_pairsBy 48 [11, 3, 62, 29, 42, 180, 1, 54, 162, 0, 19, 42, 42, 180, 1, 45, 29, 46, 182, 0, 229, 132, 3, 1, 167, 255, 235] = true := by decide +kernel
theorem dX12_pairsBy_49 : decode cX12_pairsBy 49 = .ok (.iconst 0, 1) := dq3 bw_cX12_pairsBy_2 1 rfl rfl
theorem dX12_pairsBy_50 : decode cX12_pairsBy 50 = .ok (.istore_n 3, 1) := dq62 bw_cX12_pairsBy_2 2 rfl rfl
theorem dX12_pairsBy_51 : decode cX12_pairsBy 51 = .ok (.iload_n 3, 1) := dq29 bw_cX12_pairsBy_2 3 rfl rfl
theorem dX12_pairsBy_52 : decode cX12_pairsBy 52 = .ok (.aload_n 0, 1) := dq42 bw_cX12_pairsBy_2 4 rfl rfl
theorem dX12_pairsBy_53 : decode cX12_pairsBy 53 = .ok (.getfield 310, 3) := dq180 bw_cX12_pairsBy_2 5 rfl rfl rfl
theorem dX12_pairsBy_56 : decode cX12_pairsBy 56 = .ok (.if_icmp .ge 19, 3) := dq162 bw_cX12_pairsBy_2 8 rfl rfl rfl
theorem dX12_pairsBy_59 : decode cX12_pairsBy 59 = .ok (.aload_n 0, 1) := dq42 bw_cX12_pairsBy_2 11 rfl rfl
theorem dX12_pairsBy_60 : decode cX12_pairsBy 60 = .ok (.aload_n 0, 1) := dq42 bw_cX12_pairsBy_2 12 rfl rfl
theorem dX12_pairsBy_61 : decode cX12_pairsBy 61 = .ok (.getfield 301, 3) := dq180 bw_cX12_pairsBy_2 13 rfl rfl rfl
theorem dX12_pairsBy_64 : decode cX12_pairsBy 64 = .ok (.iload_n 3, 1) := dq29 bw_cX12_pairsBy_2 16 rfl rfl
theorem dX12_pairsBy_65 : decode cX12_pairsBy 65 = .ok (.iaload, 1) := dq46 bw_cX12_pairsBy_2 17 rfl rfl
theorem dX12_pairsBy_66 : decode cX12_pairsBy 66 = .ok (.invokevirtual 229, 3) := dq182 bw_cX12_pairsBy_2 18 rfl rfl rfl
theorem dX12_pairsBy_69 : decode cX12_pairsBy 69 = .ok (.iinc 3 1, 3) := dq132 bw_cX12_pairsBy_2 21 rfl rfl rfl
theorem bw_cX12_pairsBy_3 : dq_w cX12_pairsBy 72 [167, 255, 235, 42, 180, 1, 48, 172] = true := by decide +kernel
theorem dX12_pairsBy_72 : decode cX12_pairsBy 72 = .ok (.goto (-21), 3) := dq167 bw_cX12_pairsBy_3 0 rfl rfl rfl
theorem dX12_pairsBy_75 : decode cX12_pairsBy 75 = .ok (.aload_n 0, 1) := dq42 bw_cX12_pairsBy_3 3 rfl rfl
theorem dX12_pairsBy_76 : decode cX12_pairsBy 76 = .ok (.getfield 304, 3) := dq180 bw_cX12_pairsBy_3 4 rfl rfl rfl
theorem dX12_pairsBy_79 : decode cX12_pairsBy 79 = .ok (.ireturn, 1) := dq172 bw_cX12_pairsBy_3 7 rfl rfl
theorem bw_cX12_closed_0 : dq_w cX12_closed 0 [42, 3, 181, 0, 3, 42, 3, 182, 1, 64, 172] = true := by decide +kernel
theorem dX12_closed_0 : decode cX12_closed 0 = .ok (.aload_n 0, 1) := dq42 bw_cX12_closed_0 0 rfl rfl
theorem dX12_closed_1 : decode cX12_closed 1 = .ok (.iconst 0, 1) := dq3 bw_cX12_closed_0 1 rfl rfl
theorem dX12_closed_2 : decode cX12_closed 2 = .ok (.putfield 3, 3) := dq181 bw_cX12_closed_0 2 rfl rfl rfl
theorem dX12_closed_5 : decode cX12_closed 5 = .ok (.aload_n 0, 1) := dq42 bw_cX12_closed_0 5 rfl rfl
theorem dX12_closed_6 : decode cX12_closed 6 = .ok (.iconst 0, 1) := dq3 bw_cX12_closed_0 6 rfl rfl
theorem dX12_closed_7 : decode cX12_closed 7 = .ok (.invokevirtual 320, 3) := dq182 bw_cX12_closed_0 7 rfl rfl rfl
theorem dX12_closed_10 : decode cX12_closed 10 = .ok (.ireturn, 1) := dq172 bw_cX12_closed_0 10 rfl rfl
theorem bw_cX12_open_0 : dq_w cX12_open 0 [42, 3, 181, 0, 3, 42, 5, 182, 1, 64, 172] = true := by decide +kernel
theorem dX12_open_0 : decode cX12_open 0 = .ok (.aload_n 0, 1) := dq42 bw_cX12_open_0 0 rfl rfl
theorem dX12_open_1 : decode cX12_open 1 = .ok (.iconst 0, 1) := dq3 bw_cX12_open_0 1 rfl rfl
theorem dX12_open_2 : decode cX12_open 2 = .ok (.putfield 3, 3) := dq181 bw_cX12_open_0 2 rfl rfl rfl
theorem dX12_open_5 : decode cX12_open 5 = .ok (.aload_n 0, 1) := dq42 bw_cX12_open_0 5 rfl rfl
theorem dX12_open_6 : decode cX12_open 6 = .ok (.iconst 2, 1) := dq5 bw_cX12_open_0 6 rfl rfl
theorem dX12_open_7 : decode cX12_open 7 = .ok (.invokevirtual 320, 3) := dq182 bw_cX12_open_0 7 rfl rfl rfl
theorem dX12_open_10 : decode cX12_open 10 = .ok (.ireturn, 1) := dq172 bw_cX12_open_0 10 rfl rfl
theorem bw_cX12_laysOut_0 : dq_w cX12_laysOut 0 [3, 61, 28, 4, 42, 180, 0, 21, 120, 16, 10, 104, 162, 0, 18, 42, 180, 1, 67, 28, 19, 1, 70, 79, 132, 2, 1] = true := by decide +kernel
theorem dX12_laysOut_0 : decode cX12_laysOut 0 = .ok (.iconst 0, 1) := dq3 bw_cX12_laysOut_0 0 rfl rfl
theorem dX12_laysOut_1 : decode cX12_laysOut 1 = .ok (.istore_n 2, 1) := dq61 bw_cX12_laysOut_0 1 rfl rfl
theorem dX12_laysOut_2 : decode cX12_laysOut 2 = .ok (.iload_n 2, 1) := dq28 bw_cX12_laysOut_0 2 rfl rfl
theorem dX12_laysOut_3 : decode cX12_laysOut 3 = .ok (.iconst 1, 1) := dq4 bw_cX12_laysOut_0 3 rfl rfl
theorem dX12_laysOut_4 : decode cX12_laysOut 4 = .ok (.aload_n 0, 1) := dq42 bw_cX12_laysOut_0 4 rfl rfl
theorem dX12_laysOut_5 : decode cX12_laysOut 5 = .ok (.getfield 21, 3) := dq180 bw_cX12_laysOut_0 5 rfl rfl rfl
theorem dX12_laysOut_8 : decode cX12_laysOut 8 = .ok (.ishl, 1) := dq120 bw_cX12_laysOut_0 8 rfl rfl
theorem dX12_laysOut_9 : decode cX12_laysOut 9 = .ok (.bipush 10, 2) := dq16 bw_cX12_laysOut_0 9 rfl rfl rfl
theorem dX12_laysOut_11 : decode cX12_laysOut 11 = .ok (.imul, 1) := dq104 bw_cX12_laysOut_0 11 rfl rfl
theorem dX12_laysOut_12 : decode cX12_laysOut 12 = .ok (.if_icmp .ge 18, 3) := dq162 bw_cX12_laysOut_0 12 rfl rfl rfl
theorem dX12_laysOut_15 : decode cX12_laysOut 15 = .ok (.aload_n 0, 1) := dq42 bw_cX12_laysOut_0 15 rfl rfl
theorem dX12_laysOut_16 : decode cX12_laysOut 16 = .ok (.getfield 323, 3) := dq180 bw_cX12_laysOut_0 16 rfl rfl rfl
theorem dX12_laysOut_19 : decode cX12_laysOut 19 = .ok (.iload_n 2, 1) := dq28 bw_cX12_laysOut_0 19 rfl rfl
theorem dX12_laysOut_20 : decode cX12_laysOut 20 = .ok (.ldc_w 326, 3) := dq19 bw_cX12_laysOut_0 20 rfl rfl rfl
theorem dX12_laysOut_23 : decode cX12_laysOut 23 = .ok (.iastore, 1) := dq79 bw_cX12_laysOut_0 23 rfl rfl
theorem bw_cX12_laysOut_1 : dq_w cX12_laysOut 24 [132, 2, 1, 167, 255, 231, 42, 180, 1, 67, 27, 3, 79, 3, 61, 28, 42, 182, 1, 10, 163, 0, 129, 3, 62, 29, 42] = true := by decide +kernel
theorem dX12_laysOut_24 : decode cX12_laysOut 24 = .ok (.iinc 2 1, 3) := dq132 bw_cX12_laysOut_1 0 rfl rfl rfl
theorem dX12_laysOut_27 : decode cX12_laysOut 27 = .ok (.goto (-25), 3) := dq167 bw_cX12_laysOut_1 3 rfl rfl rfl
theorem dX12_laysOut_30 : decode cX12_laysOut 30 = .ok (.aload_n 0, 1) := dq42 bw_cX12_laysOut_1 6 rfl rfl
theorem dX12_laysOut_31 : decode cX12_laysOut 31 = .ok (.getfield 323, 3) := dq180 bw_cX12_laysOut_1 7 rfl rfl rfl
theorem dX12_laysOut_34 : decode cX12_laysOut 34 = .ok (.iload_n 1, 1) := dq27 bw_cX12_laysOut_1 10 rfl rfl
theorem dX12_laysOut_35 : decode cX12_laysOut 35 = .ok (.iconst 0, 1) := dq3 bw_cX12_laysOut_1 11 rfl rfl
theorem dX12_laysOut_36 : decode cX12_laysOut 36 = .ok (.iastore, 1) := dq79 bw_cX12_laysOut_1 12 rfl rfl
theorem dX12_laysOut_37 : decode cX12_laysOut 37 = .ok (.iconst 0, 1) := dq3 bw_cX12_laysOut_1 13 rfl rfl
theorem dX12_laysOut_38 : decode cX12_laysOut 38 = .ok (.istore_n 2, 1) := dq61 bw_cX12_laysOut_1 14 rfl rfl
theorem dX12_laysOut_39 : decode cX12_laysOut 39 = .ok (.iload_n 2, 1) := dq28 bw_cX12_laysOut_1 15 rfl rfl
theorem dX12_laysOut_40 : decode cX12_laysOut 40 = .ok (.aload_n 0, 1) := dq42 bw_cX12_laysOut_1 16 rfl rfl
theorem dX12_laysOut_41 : decode cX12_laysOut 41 = .ok (.invokevirtual 266, 3) := dq182 bw_cX12_laysOut_1 17 rfl rfl rfl
theorem dX12_laysOut_44 : decode cX12_laysOut 44 = .ok (.if_icmp .gt 129, 3) := dq163 bw_cX12_laysOut_1 20 rfl rfl rfl
theorem dX12_laysOut_47 : decode cX12_laysOut 47 = .ok (.iconst 0, 1) := dq3 bw_cX12_laysOut_1 23 rfl rfl
theorem bw_cX12_laysOut_2 : dq_w cX12_laysOut 48 [62, 29, 42, 180, 0, 14, 162, 0, 113, 42, 180, 1, 67, 16, 10, 28, 104, 29, 96, 46, 54, 4, 3, 54, 5, 21, 5] = true := by decide +kernel
theorem dX12_laysOut_48 : decode cX12_laysOut 48 = .ok (.istore_n 3, 1) := dq62 bw_cX12_laysOut_2 0 rfl rfl
theorem dX12_laysOut_49 : decode cX12_laysOut 49 = .ok (.iload_n 3, 1) := dq29 bw_cX12_laysOut_2 1 rfl rfl
theorem dX12_laysOut_50 : decode cX12_laysOut 50 = .ok (.aload_n 0, 1) := dq42 bw_cX12_laysOut_2 2 rfl rfl
theorem dX12_laysOut_51 : decode cX12_laysOut 51 = .ok (.getfield 14, 3) := dq180 bw_cX12_laysOut_2 3 rfl rfl rfl
theorem dX12_laysOut_54 : decode cX12_laysOut 54 = .ok (.if_icmp .ge 113, 3) := dq162 bw_cX12_laysOut_2 6 rfl rfl rfl
theorem dX12_laysOut_57 : decode cX12_laysOut 57 = .ok (.aload_n 0, 1) := dq42 bw_cX12_laysOut_2 9 rfl rfl
theorem dX12_laysOut_58 : decode cX12_laysOut 58 = .ok (.getfield 323, 3) := dq180 bw_cX12_laysOut_2 10 rfl rfl rfl
theorem dX12_laysOut_61 : decode cX12_laysOut 61 = .ok (.bipush 10, 2) := dq16 bw_cX12_laysOut_2 13 rfl rfl rfl
theorem dX12_laysOut_63 : decode cX12_laysOut 63 = .ok (.iload_n 2, 1) := dq28 bw_cX12_laysOut_2 15 rfl rfl
theorem dX12_laysOut_64 : decode cX12_laysOut 64 = .ok (.imul, 1) := dq104 bw_cX12_laysOut_2 16 rfl rfl
theorem dX12_laysOut_65 : decode cX12_laysOut 65 = .ok (.iload_n 3, 1) := dq29 bw_cX12_laysOut_2 17 rfl rfl
theorem dX12_laysOut_66 : decode cX12_laysOut 66 = .ok (.iadd, 1) := dq96 bw_cX12_laysOut_2 18 rfl rfl
theorem dX12_laysOut_67 : decode cX12_laysOut 67 = .ok (.iaload, 1) := dq46 bw_cX12_laysOut_2 19 rfl rfl
theorem dX12_laysOut_68 : decode cX12_laysOut 68 = .ok (.istore 4, 2) := dq54 bw_cX12_laysOut_2 20 rfl rfl
theorem dX12_laysOut_70 : decode cX12_laysOut 70 = .ok (.iconst 0, 1) := dq3 bw_cX12_laysOut_2 22 rfl rfl
theorem dX12_laysOut_71 : decode cX12_laysOut 71 = .ok (.istore 5, 2) := dq54 bw_cX12_laysOut_2 23 rfl rfl
theorem bw_cX12_laysOut_3 : dq_w cX12_laysOut 72 [5, 21, 5, 42, 180, 0, 21, 162, 0, 82, 21, 4, 19, 1, 70, 162, 0, 74, 28, 21, 5, 184, 0, 144, 154, 0, 59] = true := by decide +kernel
theorem dX12_laysOut_73 : decode cX12_laysOut 73 = .ok (.iload 5, 2) := dq21 bw_cX12_laysOut_3 1 rfl rfl
theorem dX12_laysOut_75 : decode cX12_laysOut 75 = .ok (.aload_n 0, 1) := dq42 bw_cX12_laysOut_3 3 rfl rfl
theorem dX12_laysOut_76 : decode cX12_laysOut 76 = .ok (.getfield 21, 3) := dq180 bw_cX12_laysOut_3 4 rfl rfl rfl
theorem dX12_laysOut_79 : decode cX12_laysOut 79 = .ok (.if_icmp .ge 82, 3) := dq162 bw_cX12_laysOut_3 7 rfl rfl rfl
theorem dX12_laysOut_82 : decode cX12_laysOut 82 = .ok (.iload 4, 2) := dq21 bw_cX12_laysOut_3 10 rfl rfl
theorem dX12_laysOut_84 : decode cX12_laysOut 84 = .ok (.ldc_w 326, 3) := dq19 bw_cX12_laysOut_3 12 rfl rfl rfl
theorem dX12_laysOut_87 : decode cX12_laysOut 87 = .ok (.if_icmp .ge 74, 3) := dq162 bw_cX12_laysOut_3 15 rfl rfl rfl
theorem dX12_laysOut_90 : decode cX12_laysOut 90 = .ok (.iload_n 2, 1) := dq28 bw_cX12_laysOut_3 18 rfl rfl
theorem dX12_laysOut_91 : decode cX12_laysOut 91 = .ok (.iload 5, 2) := dq21 bw_cX12_laysOut_3 19 rfl rfl
theorem dX12_laysOut_93 : decode cX12_laysOut 93 = .ok (.invokestatic 144, 3) := dq184 bw_cX12_laysOut_3 21 rfl rfl rfl
theorem bw_cX12_laysOut_4 : dq_w cX12_laysOut 96 [154, 0, 59, 42, 21, 5, 29, 182, 0, 180, 153, 0, 49, 16, 10, 28, 4, 21, 5, 120, 128, 104, 42, 21, 5, 29, 182] = true := by decide +kernel
theorem dX12_laysOut_96 : decode cX12_laysOut 96 = .ok (.ifCond .ne 59, 3) := dq154 bw_cX12_laysOut_4 0 rfl rfl rfl
theorem dX12_laysOut_99 : decode cX12_laysOut 99 = .ok (.aload_n 0, 1) := dq42 bw_cX12_laysOut_4 3 rfl rfl
theorem dX12_laysOut_100 : decode cX12_laysOut 100 = .ok (.iload 5, 2) := dq21 bw_cX12_laysOut_4 4 rfl rfl
theorem dX12_laysOut_102 : decode cX12_laysOut 102 = .ok (.iload_n 3, 1) := dq29 bw_cX12_laysOut_4 6 rfl rfl
theorem dX12_laysOut_103 : decode cX12_laysOut 103 = .ok (.invokevirtual 180, 3) := dq182 bw_cX12_laysOut_4 7 rfl rfl rfl
theorem dX12_laysOut_106 : decode cX12_laysOut 106 = .ok (.ifCond .eq 49, 3) := dq153 bw_cX12_laysOut_4 10 rfl rfl rfl
theorem dX12_laysOut_109 : decode cX12_laysOut 109 = .ok (.bipush 10, 2) := dq16 bw_cX12_laysOut_4 13 rfl rfl rfl
theorem dX12_laysOut_111 : decode cX12_laysOut 111 = .ok (.iload_n 2, 1) := dq28 bw_cX12_laysOut_4 15 rfl rfl
theorem dX12_laysOut_112 : decode cX12_laysOut 112 = .ok (.iconst 1, 1) := dq4 bw_cX12_laysOut_4 16 rfl rfl
theorem dX12_laysOut_113 : decode cX12_laysOut 113 = .ok (.iload 5, 2) := dq21 bw_cX12_laysOut_4 17 rfl rfl
theorem dX12_laysOut_115 : decode cX12_laysOut 115 = .ok (.ishl, 1) := dq120 bw_cX12_laysOut_4 19 rfl rfl
theorem dX12_laysOut_116 : decode cX12_laysOut 116 = .ok (.ior, 1) := dq128 bw_cX12_laysOut_4 20 rfl rfl
theorem dX12_laysOut_117 : decode cX12_laysOut 117 = .ok (.imul, 1) := dq104 bw_cX12_laysOut_4 21 rfl rfl
theorem dX12_laysOut_118 : decode cX12_laysOut 118 = .ok (.aload_n 0, 1) := dq42 bw_cX12_laysOut_4 22 rfl rfl
theorem dX12_laysOut_119 : decode cX12_laysOut 119 = .ok (.iload 5, 2) := dq21 bw_cX12_laysOut_4 23 rfl rfl
theorem bw_cX12_laysOut_5 : dq_w cX12_laysOut 120 [5, 29, 182, 0, 201, 96, 54, 6, 42, 180, 1, 67, 21, 6, 42, 180, 1, 67, 21, 6, 46, 21, 4, 42, 21, 5, 29] = true := by decide +kernel
theorem dX12_laysOut_121 : decode cX12_laysOut 121 = .ok (.iload_n 3, 1) := dq29 bw_cX12_laysOut_5 1 rfl rfl
theorem dX12_laysOut_122 : decode cX12_laysOut 122 = .ok (.invokevirtual 201, 3) := dq182 bw_cX12_laysOut_5 2 rfl rfl rfl
theorem dX12_laysOut_125 : decode cX12_laysOut 125 = .ok (.iadd, 1) := dq96 bw_cX12_laysOut_5 5 rfl rfl
theorem dX12_laysOut_126 : decode cX12_laysOut 126 = .ok (.istore 6, 2) := dq54 bw_cX12_laysOut_5 6 rfl rfl
theorem dX12_laysOut_128 : decode cX12_laysOut 128 = .ok (.aload_n 0, 1) := dq42 bw_cX12_laysOut_5 8 rfl rfl
theorem dX12_laysOut_129 : decode cX12_laysOut 129 = .ok (.getfield 323, 3) := dq180 bw_cX12_laysOut_5 9 rfl rfl rfl
theorem dX12_laysOut_132 : decode cX12_laysOut 132 = .ok (.iload 6, 2) := dq21 bw_cX12_laysOut_5 12 rfl rfl
theorem dX12_laysOut_134 : decode cX12_laysOut 134 = .ok (.aload_n 0, 1) := dq42 bw_cX12_laysOut_5 14 rfl rfl
theorem dX12_laysOut_135 : decode cX12_laysOut 135 = .ok (.getfield 323, 3) := dq180 bw_cX12_laysOut_5 15 rfl rfl rfl
theorem dX12_laysOut_138 : decode cX12_laysOut 138 = .ok (.iload 6, 2) := dq21 bw_cX12_laysOut_5 18 rfl rfl
theorem dX12_laysOut_140 : decode cX12_laysOut 140 = .ok (.iaload, 1) := dq46 bw_cX12_laysOut_5 20 rfl rfl
theorem dX12_laysOut_141 : decode cX12_laysOut 141 = .ok (.iload 4, 2) := dq21 bw_cX12_laysOut_5 21 rfl rfl
theorem dX12_laysOut_143 : decode cX12_laysOut 143 = .ok (.aload_n 0, 1) := dq42 bw_cX12_laysOut_5 23 rfl rfl
theorem bw_cX12_laysOut_6 : dq_w cX12_laysOut 144 [21, 5, 29, 182, 0, 186, 96, 184, 0, 33, 79, 132, 5, 1, 167, 255, 171, 132, 3, 1, 167, 255, 141, 132, 2, 1, 167] = true := by decide +kernel
theorem dX12_laysOut_144 : decode cX12_laysOut 144 = .ok (.iload 5, 2) := dq21 bw_cX12_laysOut_6 0 rfl rfl
theorem dX12_laysOut_146 : decode cX12_laysOut 146 = .ok (.iload_n 3, 1) := dq29 bw_cX12_laysOut_6 2 rfl rfl
theorem dX12_laysOut_147 : decode cX12_laysOut 147 = .ok (.invokevirtual 186, 3) := dq182 bw_cX12_laysOut_6 3 rfl rfl rfl
theorem dX12_laysOut_150 : decode cX12_laysOut 150 = .ok (.iadd, 1) := dq96 bw_cX12_laysOut_6 6 rfl rfl
theorem dX12_laysOut_151 : decode cX12_laysOut 151 = .ok (.invokestatic 33, 3) := dq184 bw_cX12_laysOut_6 7 rfl rfl rfl
theorem dX12_laysOut_154 : decode cX12_laysOut 154 = .ok (.iastore, 1) := dq79 bw_cX12_laysOut_6 10 rfl rfl
theorem dX12_laysOut_155 : decode cX12_laysOut 155 = .ok (.iinc 5 1, 3) := dq132 bw_cX12_laysOut_6 11 rfl rfl rfl
theorem dX12_laysOut_158 : decode cX12_laysOut 158 = .ok (.goto (-85), 3) := dq167 bw_cX12_laysOut_6 14 rfl rfl rfl
theorem dX12_laysOut_161 : decode cX12_laysOut 161 = .ok (.iinc 3 1, 3) := dq132 bw_cX12_laysOut_6 17 rfl rfl rfl
theorem dX12_laysOut_164 : decode cX12_laysOut 164 = .ok (.goto (-115), 3) := dq167 bw_cX12_laysOut_6 20 rfl rfl rfl
theorem dX12_laysOut_167 : decode cX12_laysOut 167 = .ok (.iinc 2 1, 3) := dq132 bw_cX12_laysOut_6 23 rfl rfl rfl
theorem bw_cX12_laysOut_7 : dq_w cX12_laysOut 168 [2, 1, 167, 255, 125, 177] = true := by decide +kernel
theorem dX12_laysOut_170 : decode cX12_laysOut 170 = .ok (.goto (-131), 3) := dq167 bw_cX12_laysOut_7 2 rfl rfl rfl
theorem dX12_laysOut_173 : decode cX12_laysOut 173 = .ok (.return_, 1) := dq177 bw_cX12_laysOut_7 5 rfl rfl
theorem bw_cX12_soonest_0 : dq_w cX12_soonest 0 [19, 1, 70, 62, 3, 54, 4, 21, 4, 42, 180, 0, 14, 162, 0, 40, 28, 155, 0, 9, 28, 21, 4, 160, 0, 22, 29] = true := by decide +kernel
theorem dX12_soonest_0 : decode cX12_soonest 0 = .ok (.ldc_w 326, 3) := dq19 bw_cX12_soonest_0 0 rfl rfl rfl
theorem dX12_soonest_3 : decode cX12_soonest 3 = .ok (.istore_n 3, 1) := dq62 bw_cX12_soonest_0 3 rfl rfl
theorem dX12_soonest_4 : decode cX12_soonest 4 = .ok (.iconst 0, 1) := dq3 bw_cX12_soonest_0 4 rfl rfl
theorem dX12_soonest_5 : decode cX12_soonest 5 = .ok (.istore 4, 2) := dq54 bw_cX12_soonest_0 5 rfl rfl
theorem dX12_soonest_7 : decode cX12_soonest 7 = .ok (.iload 4, 2) := dq21 bw_cX12_soonest_0 7 rfl rfl
theorem dX12_soonest_9 : decode cX12_soonest 9 = .ok (.aload_n 0, 1) := dq42 bw_cX12_soonest_0 9 rfl rfl
theorem dX12_soonest_10 : decode cX12_soonest 10 = .ok (.getfield 14, 3) := dq180 bw_cX12_soonest_0 10 rfl rfl rfl
theorem dX12_soonest_13 : decode cX12_soonest 13 = .ok (.if_icmp .ge 40, 3) := dq162 bw_cX12_soonest_0 13 rfl rfl rfl
theorem dX12_soonest_16 : decode cX12_soonest 16 = .ok (.iload_n 2, 1) := dq28 bw_cX12_soonest_0 16 rfl rfl
theorem dX12_soonest_17 : decode cX12_soonest 17 = .ok (.ifCond .lt 9, 3) := dq155 bw_cX12_soonest_0 17 rfl rfl rfl
theorem dX12_soonest_20 : decode cX12_soonest 20 = .ok (.iload_n 2, 1) := dq28 bw_cX12_soonest_0 20 rfl rfl
theorem dX12_soonest_21 : decode cX12_soonest 21 = .ok (.iload 4, 2) := dq21 bw_cX12_soonest_0 21 rfl rfl
theorem dX12_soonest_23 : decode cX12_soonest 23 = .ok (.if_icmp .ne 22, 3) := dq160 bw_cX12_soonest_0 23 rfl rfl rfl
theorem bw_cX12_soonest_1 : dq_w cX12_soonest 24 [0, 22, 29, 42, 180, 1, 67, 16, 10, 27, 104, 21, 4, 96, 46, 184, 0, 33, 167, 0, 4, 29, 62, 132, 4, 1, 167] = true := by decide +kernel
theorem dX12_soonest_26 : decode cX12_soonest 26 = .ok (.iload_n 3, 1) := dq29 bw_cX12_soonest_1 2 rfl rfl
theorem dX12_soonest_27 : decode cX12_soonest 27 = .ok (.aload_n 0, 1) := dq42 bw_cX12_soonest_1 3 rfl rfl
theorem dX12_soonest_28 : decode cX12_soonest 28 = .ok (.getfield 323, 3) := dq180 bw_cX12_soonest_1 4 rfl rfl rfl
theorem dX12_soonest_31 : decode cX12_soonest 31 = .ok (.bipush 10, 2) := dq16 bw_cX12_soonest_1 7 rfl rfl rfl
theorem dX12_soonest_33 : decode cX12_soonest 33 = .ok (.iload_n 1, 1) := dq27 bw_cX12_soonest_1 9 rfl rfl
theorem dX12_soonest_34 : decode cX12_soonest 34 = .ok (.imul, 1) := dq104 bw_cX12_soonest_1 10 rfl rfl
theorem dX12_soonest_35 : decode cX12_soonest 35 = .ok (.iload 4, 2) := dq21 bw_cX12_soonest_1 11 rfl rfl
theorem dX12_soonest_37 : decode cX12_soonest 37 = .ok (.iadd, 1) := dq96 bw_cX12_soonest_1 13 rfl rfl
theorem dX12_soonest_38 : decode cX12_soonest 38 = .ok (.iaload, 1) := dq46 bw_cX12_soonest_1 14 rfl rfl
theorem dX12_soonest_39 : decode cX12_soonest 39 = .ok (.invokestatic 33, 3) := dq184 bw_cX12_soonest_1 15 rfl rfl rfl
theorem dX12_soonest_42 : decode cX12_soonest 42 = .ok (.goto 4, 3) := dq167 bw_cX12_soonest_1 18 rfl rfl rfl
theorem dX12_soonest_45 : decode cX12_soonest 45 = .ok (.iload_n 3, 1) := dq29 bw_cX12_soonest_1 21 rfl rfl
theorem dX12_soonest_46 : decode cX12_soonest 46 = .ok (.istore_n 3, 1) := dq62 bw_cX12_soonest_1 22 rfl rfl
theorem dX12_soonest_47 : decode cX12_soonest 47 = .ok (.iinc 4 1, 3) := dq132 bw_cX12_soonest_1 23 rfl rfl rfl
theorem bw_cX12_soonest_2 : dq_w cX12_soonest 48 [4, 1, 167, 255, 213, 29, 172] = true := by decide +kernel
theorem dX12_soonest_50 : decode cX12_soonest 50 = .ok (.goto (-43), 3) := dq167 bw_cX12_soonest_2 2 rfl rfl rfl
theorem dX12_soonest_53 : decode cX12_soonest 53 = .ok (.iload_n 3, 1) := dq29 bw_cX12_soonest_2 5 rfl rfl
theorem dX12_soonest_54 : decode cX12_soonest 54 = .ok (.ireturn, 1) := dq172 bw_cX12_soonest_2 6 rfl rfl
theorem bw_cX12_worthOf_0 : dq_w cX12_worthOf 0 [3, 61, 3, 62, 29, 42, 180, 0, 21, 162, 0, 30, 28, 27, 29, 184, 0, 144, 153, 0, 12, 42, 180, 0, 95, 29, 46] = true := by decide +kernel
theorem dX12_worthOf_0 : decode cX12_worthOf 0 = .ok (.iconst 0, 1) := dq3 bw_cX12_worthOf_0 0 rfl rfl
theorem dX12_worthOf_1 : decode cX12_worthOf 1 = .ok (.istore_n 2, 1) := dq61 bw_cX12_worthOf_0 1 rfl rfl
theorem dX12_worthOf_2 : decode cX12_worthOf 2 = .ok (.iconst 0, 1) := dq3 bw_cX12_worthOf_0 2 rfl rfl
theorem dX12_worthOf_3 : decode cX12_worthOf 3 = .ok (.istore_n 3, 1) := dq62 bw_cX12_worthOf_0 3 rfl rfl
theorem dX12_worthOf_4 : decode cX12_worthOf 4 = .ok (.iload_n 3, 1) := dq29 bw_cX12_worthOf_0 4 rfl rfl
theorem dX12_worthOf_5 : decode cX12_worthOf 5 = .ok (.aload_n 0, 1) := dq42 bw_cX12_worthOf_0 5 rfl rfl
theorem dX12_worthOf_6 : decode cX12_worthOf 6 = .ok (.getfield 21, 3) := dq180 bw_cX12_worthOf_0 6 rfl rfl rfl
theorem dX12_worthOf_9 : decode cX12_worthOf 9 = .ok (.if_icmp .ge 30, 3) := dq162 bw_cX12_worthOf_0 9 rfl rfl rfl
theorem dX12_worthOf_12 : decode cX12_worthOf 12 = .ok (.iload_n 2, 1) := dq28 bw_cX12_worthOf_0 12 rfl rfl
theorem dX12_worthOf_13 : decode cX12_worthOf 13 = .ok (.iload_n 1, 1) := dq27 bw_cX12_worthOf_0 13 rfl rfl
theorem dX12_worthOf_14 : decode cX12_worthOf 14 = .ok (.iload_n 3, 1) := dq29 bw_cX12_worthOf_0 14 rfl rfl
theorem dX12_worthOf_15 : decode cX12_worthOf 15 = .ok (.invokestatic 144, 3) := dq184 bw_cX12_worthOf_0 15 rfl rfl rfl
theorem dX12_worthOf_18 : decode cX12_worthOf 18 = .ok (.ifCond .eq 12, 3) := dq153 bw_cX12_worthOf_0 18 rfl rfl rfl
theorem dX12_worthOf_21 : decode cX12_worthOf 21 = .ok (.aload_n 0, 1) := dq42 bw_cX12_worthOf_0 21 rfl rfl
theorem dX12_worthOf_22 : decode cX12_worthOf 22 = .ok (.getfield 95, 3) := dq180 bw_cX12_worthOf_0 22 rfl rfl rfl
theorem bw_cX12_worthOf_1 : dq_w cX12_worthOf 24 [95, 29, 46, 167, 0, 4, 3, 96, 61, 132, 3, 1, 167, 255, 224, 28, 172] = true := by decide +kernel
theorem dX12_worthOf_25 : decode cX12_worthOf 25 = .ok (.iload_n 3, 1) := dq29 bw_cX12_worthOf_1 1 rfl rfl
theorem dX12_worthOf_26 : decode cX12_worthOf 26 = .ok (.iaload, 1) := dq46 bw_cX12_worthOf_1 2 rfl rfl
theorem dX12_worthOf_27 : decode cX12_worthOf 27 = .ok (.goto 4, 3) := dq167 bw_cX12_worthOf_1 3 rfl rfl rfl
theorem dX12_worthOf_30 : decode cX12_worthOf 30 = .ok (.iconst 0, 1) := dq3 bw_cX12_worthOf_1 6 rfl rfl
theorem dX12_worthOf_31 : decode cX12_worthOf 31 = .ok (.iadd, 1) := dq96 bw_cX12_worthOf_1 7 rfl rfl
theorem dX12_worthOf_32 : decode cX12_worthOf 32 = .ok (.istore_n 2, 1) := dq61 bw_cX12_worthOf_1 8 rfl rfl
theorem dX12_worthOf_33 : decode cX12_worthOf 33 = .ok (.iinc 3 1, 3) := dq132 bw_cX12_worthOf_1 9 rfl rfl rfl
theorem dX12_worthOf_36 : decode cX12_worthOf 36 = .ok (.goto (-32), 3) := dq167 bw_cX12_worthOf_1 12 rfl rfl rfl
theorem dX12_worthOf_39 : decode cX12_worthOf 39 = .ok (.iload_n 2, 1) := dq28 bw_cX12_worthOf_1 15 rfl rfl
theorem dX12_worthOf_40 : decode cX12_worthOf 40 = .ok (.ireturn, 1) := dq172 bw_cX12_worthOf_1 16 rfl rfl
theorem bw_cX12_mostBy_0 : dq_w cX12_mostBy 0 [42, 27, 182, 1, 71, 3, 54, 4, 3, 54, 5, 3, 54, 6, 3, 54, 7, 21, 7, 42, 182, 1, 10, 163, 0, 72, 42] = true := by decide +kernel
theorem dX12_mostBy_0 : decode cX12_mostBy 0 = .ok (.aload_n 0, 1) := dq42 bw_cX12_mostBy_0 0 rfl rfl
theorem dX12_mostBy_1 : decode cX12_mostBy 1 = .ok (.iload_n 1, 1) := dq27 bw_cX12_mostBy_0 1 rfl rfl
theorem dX12_mostBy_2 : decode cX12_mostBy 2 = .ok (.invokevirtual 327, 3) := dq182 bw_cX12_mostBy_0 2 rfl rfl rfl
theorem dX12_mostBy_5 : decode cX12_mostBy 5 = .ok (.iconst 0, 1) := dq3 bw_cX12_mostBy_0 5 rfl rfl
theorem dX12_mostBy_6 : decode cX12_mostBy 6 = .ok (.istore 4, 2) := dq54 bw_cX12_mostBy_0 6 rfl rfl
theorem dX12_mostBy_8 : decode cX12_mostBy 8 = .ok (.iconst 0, 1) := dq3 bw_cX12_mostBy_0 8 rfl rfl
theorem dX12_mostBy_9 : decode cX12_mostBy 9 = .ok (.istore 5, 2) := dq54 bw_cX12_mostBy_0 9 rfl rfl
theorem dX12_mostBy_11 : decode cX12_mostBy 11 = .ok (.iconst 0, 1) := dq3 bw_cX12_mostBy_0 11 rfl rfl
theorem dX12_mostBy_12 : decode cX12_mostBy 12 = .ok (.istore 6, 2) := dq54 bw_cX12_mostBy_0 12 rfl rfl
theorem dX12_mostBy_14 : decode cX12_mostBy 14 = .ok (.iconst 0, 1) := dq3 bw_cX12_mostBy_0 14 rfl rfl
theorem dX12_mostBy_15 : decode cX12_mostBy 15 = .ok (.istore 7, 2) := dq54 bw_cX12_mostBy_0 15 rfl rfl
theorem dX12_mostBy_17 : decode cX12_mostBy 17 = .ok (.iload 7, 2) := dq21 bw_cX12_mostBy_0 17 rfl rfl
theorem dX12_mostBy_19 : decode cX12_mostBy 19 = .ok (.aload_n 0, 1) := dq42 bw_cX12_mostBy_0 19 rfl rfl
theorem dX12_mostBy_20 : decode cX12_mostBy 20 = .ok (.invokevirtual 266, 3) := dq182 bw_cX12_mostBy_0 20 rfl rfl rfl
theorem dX12_mostBy_23 : decode cX12_mostBy 23 = .ok (.if_icmp .gt 72, 3) := dq163 bw_cX12_mostBy_0 23 rfl rfl rfl
theorem bw_cX12_mostBy_1 : dq_w cX12_mostBy 24 [0, 72, 42, 21, 7, 29, 182, 1, 74, 54, 8, 21, 8, 28, 164, 0, 7, 2, 167, 0, 12, 42, 21, 7, 182, 1, 77] = true := by decide +kernel
theorem dX12_mostBy_26 : decode cX12_mostBy 26 = .ok (.aload_n 0, 1) := dq42 bw_cX12_mostBy_1 2 rfl rfl
theorem dX12_mostBy_27 : decode cX12_mostBy 27 = .ok (.iload 7, 2) := dq21 bw_cX12_mostBy_1 3 rfl rfl
theorem dX12_mostBy_29 : decode cX12_mostBy 29 = .ok (.iload_n 3, 1) := dq29 bw_cX12_mostBy_1 5 rfl rfl
theorem dX12_mostBy_30 : decode cX12_mostBy 30 = .ok (.invokevirtual 330, 3) := dq182 bw_cX12_mostBy_1 6 rfl rfl rfl
theorem dX12_mostBy_33 : decode cX12_mostBy 33 = .ok (.istore 8, 2) := dq54 bw_cX12_mostBy_1 9 rfl rfl
theorem dX12_mostBy_35 : decode cX12_mostBy 35 = .ok (.iload 8, 2) := dq21 bw_cX12_mostBy_1 11 rfl rfl
theorem dX12_mostBy_37 : decode cX12_mostBy 37 = .ok (.iload_n 2, 1) := dq28 bw_cX12_mostBy_1 13 rfl rfl
theorem dX12_mostBy_38 : decode cX12_mostBy 38 = .ok (.if_icmp .le 7, 3) := dq164 bw_cX12_mostBy_1 14 rfl rfl rfl
theorem dX12_mostBy_41 : decode cX12_mostBy 41 = .ok (.iconst (-1), 1) := dq2 bw_cX12_mostBy_1 17 rfl rfl
theorem dX12_mostBy_42 : decode cX12_mostBy 42 = .ok (.goto 12, 3) := dq167 bw_cX12_mostBy_1 18 rfl rfl rfl
theorem dX12_mostBy_45 : decode cX12_mostBy 45 = .ok (.aload_n 0, 1) := dq42 bw_cX12_mostBy_1 21 rfl rfl
theorem dX12_mostBy_46 : decode cX12_mostBy 46 = .ok (.iload 7, 2) := dq21 bw_cX12_mostBy_1 22 rfl rfl
theorem bw_cX12_mostBy_2 : dq_w cX12_mostBy 48 [182, 1, 77, 21, 5, 100, 54, 9, 21, 9, 157, 0, 15, 21, 9, 154, 0, 26, 21, 8, 21, 6, 162, 0, 19, 21, 7] = true := by decide +kernel
theorem dX12_mostBy_48 : decode cX12_mostBy 48 = .ok (.invokevirtual 333, 3) := dq182 bw_cX12_mostBy_2 0 rfl rfl rfl
theorem dX12_mostBy_51 : decode cX12_mostBy 51 = .ok (.iload 5, 2) := dq21 bw_cX12_mostBy_2 3 rfl rfl
theorem dX12_mostBy_53 : decode cX12_mostBy 53 = .ok (.isub, 1) := dq100 bw_cX12_mostBy_2 5 rfl rfl
theorem dX12_mostBy_54 : decode cX12_mostBy 54 = .ok (.istore 9, 2) := dq54 bw_cX12_mostBy_2 6 rfl rfl
theorem dX12_mostBy_56 : decode cX12_mostBy 56 = .ok (.iload 9, 2) := dq21 bw_cX12_mostBy_2 8 rfl rfl
theorem dX12_mostBy_58 : decode cX12_mostBy 58 = .ok (.ifCond .gt 15, 3) := dq157 bw_cX12_mostBy_2 10 rfl rfl rfl
theorem dX12_mostBy_61 : decode cX12_mostBy 61 = .ok (.iload 9, 2) := dq21 bw_cX12_mostBy_2 13 rfl rfl
theorem dX12_mostBy_63 : decode cX12_mostBy 63 = .ok (.ifCond .ne 26, 3) := dq154 bw_cX12_mostBy_2 15 rfl rfl rfl
theorem dX12_mostBy_66 : decode cX12_mostBy 66 = .ok (.iload 8, 2) := dq21 bw_cX12_mostBy_2 18 rfl rfl
theorem dX12_mostBy_68 : decode cX12_mostBy 68 = .ok (.iload 6, 2) := dq21 bw_cX12_mostBy_2 20 rfl rfl
theorem dX12_mostBy_70 : decode cX12_mostBy 70 = .ok (.if_icmp .ge 19, 3) := dq162 bw_cX12_mostBy_2 22 rfl rfl rfl
theorem bw_cX12_mostBy_3 : dq_w cX12_mostBy 72 [19, 21, 7, 54, 4, 42, 21, 7, 182, 1, 77, 54, 5, 21, 8, 54, 6, 132, 7, 1, 167, 255, 181, 42, 3, 181, 0] = true := by decide +kernel
theorem dX12_mostBy_73 : decode cX12_mostBy 73 = .ok (.iload 7, 2) := dq21 bw_cX12_mostBy_3 1 rfl rfl
theorem dX12_mostBy_75 : decode cX12_mostBy 75 = .ok (.istore 4, 2) := dq54 bw_cX12_mostBy_3 3 rfl rfl
theorem dX12_mostBy_77 : decode cX12_mostBy 77 = .ok (.aload_n 0, 1) := dq42 bw_cX12_mostBy_3 5 rfl rfl
theorem dX12_mostBy_78 : decode cX12_mostBy 78 = .ok (.iload 7, 2) := dq21 bw_cX12_mostBy_3 6 rfl rfl
theorem dX12_mostBy_80 : decode cX12_mostBy 80 = .ok (.invokevirtual 333, 3) := dq182 bw_cX12_mostBy_3 8 rfl rfl rfl
theorem dX12_mostBy_83 : decode cX12_mostBy 83 = .ok (.istore 5, 2) := dq54 bw_cX12_mostBy_3 11 rfl rfl
theorem dX12_mostBy_85 : decode cX12_mostBy 85 = .ok (.iload 8, 2) := dq21 bw_cX12_mostBy_3 13 rfl rfl
theorem dX12_mostBy_87 : decode cX12_mostBy 87 = .ok (.istore 6, 2) := dq54 bw_cX12_mostBy_3 15 rfl rfl
theorem dX12_mostBy_89 : decode cX12_mostBy 89 = .ok (.iinc 7 1, 3) := dq132 bw_cX12_mostBy_3 17 rfl rfl rfl
theorem dX12_mostBy_92 : decode cX12_mostBy 92 = .ok (.goto (-75), 3) := dq167 bw_cX12_mostBy_3 20 rfl rfl rfl
theorem dX12_mostBy_95 : decode cX12_mostBy 95 = .ok (.aload_n 0, 1) := dq42 bw_cX12_mostBy_3 23 rfl rfl
theorem bw_cX12_mostBy_4 : dq_w cX12_mostBy 96 [3, 181, 0, 11, 42, 21, 4, 182, 0, 229, 42, 21, 6, 182, 0, 229, 21, 5, 172] = true := by decide +kernel
theorem dX12_mostBy_96 : decode cX12_mostBy 96 = .ok (.iconst 0, 1) := dq3 bw_cX12_mostBy_4 0 rfl rfl
theorem dX12_mostBy_97 : decode cX12_mostBy 97 = .ok (.putfield 11, 3) := dq181 bw_cX12_mostBy_4 1 rfl rfl rfl
theorem dX12_mostBy_100 : decode cX12_mostBy 100 = .ok (.aload_n 0, 1) := dq42 bw_cX12_mostBy_4 4 rfl rfl
theorem dX12_mostBy_101 : decode cX12_mostBy 101 = .ok (.iload 4, 2) := dq21 bw_cX12_mostBy_4 5 rfl rfl
theorem dX12_mostBy_103 : decode cX12_mostBy 103 = .ok (.invokevirtual 229, 3) := dq182 bw_cX12_mostBy_4 7 rfl rfl rfl
theorem dX12_mostBy_106 : decode cX12_mostBy 106 = .ok (.aload_n 0, 1) := dq42 bw_cX12_mostBy_4 10 rfl rfl
theorem dX12_mostBy_107 : decode cX12_mostBy 107 = .ok (.iload 6, 2) := dq21 bw_cX12_mostBy_4 11 rfl rfl
theorem dX12_mostBy_109 : decode cX12_mostBy 109 = .ok (.invokevirtual 229, 3) := dq182 bw_cX12_mostBy_4 13 rfl rfl rfl
theorem dX12_mostBy_112 : decode cX12_mostBy 112 = .ok (.iload 5, 2) := dq21 bw_cX12_mostBy_4 16 rfl rfl
theorem dX12_mostBy_114 : decode cX12_mostBy 114 = .ok (.ireturn, 1) := dq172 bw_cX12_mostBy_4 18 rfl rfl
theorem bw_cX12_most_0 : dq_w cX12_most 0 [42, 3, 181, 0, 3, 42, 27, 182, 0, 157, 153, 0, 25, 28, 133, 9, 20, 0, 167, 184, 0, 17, 153, 0, 13, 42, 27] = true := by decide +kernel
theorem dX12_most_0 : decode cX12_most 0 = .ok (.aload_n 0, 1) := dq42 bw_cX12_most_0 0 rfl rfl
theorem dX12_most_1 : decode cX12_most 1 = .ok (.iconst 0, 1) := dq3 bw_cX12_most_0 1 rfl rfl
theorem dX12_most_2 : decode cX12_most 2 = .ok (.putfield 3, 3) := dq181 bw_cX12_most_0 2 rfl rfl rfl
theorem dX12_most_5 : decode cX12_most 5 = .ok (.aload_n 0, 1) := dq42 bw_cX12_most_0 5 rfl rfl
theorem dX12_most_6 : decode cX12_most 6 = .ok (.iload_n 1, 1) := dq27 bw_cX12_most_0 6 rfl rfl
theorem dX12_most_7 : decode cX12_most 7 = .ok (.invokevirtual 157, 3) := dq182 bw_cX12_most_0 7 rfl rfl rfl
theorem dX12_most_10 : decode cX12_most 10 = .ok (.ifCond .eq 25, 3) := dq153 bw_cX12_most_0 10 rfl rfl rfl
theorem dX12_most_13 : decode cX12_most 13 = .ok (.iload_n 2, 1) := dq28 bw_cX12_most_0 13 rfl rfl
theorem dX12_most_14 : decode cX12_most 14 = .ok (.i2l, 1) := dq133 bw_cX12_most_0 14 rfl rfl
theorem dX12_most_15 : decode cX12_most 15 = .ok (.lconst 0, 1) := dq9 bw_cX12_most_0 15 rfl rfl
theorem dX12_most_16 : decode cX12_most 16 = .ok (.ldc2_w 167, 3) := dq20 bw_cX12_most_0 16 rfl rfl rfl
theorem dX12_most_19 : decode cX12_most 19 = .ok (.invokestatic 17, 3) := dq184 bw_cX12_most_0 19 rfl rfl rfl
theorem dX12_most_22 : decode cX12_most 22 = .ok (.ifCond .eq 13, 3) := dq153 bw_cX12_most_0 22 rfl rfl rfl
theorem bw_cX12_most_1 : dq_w cX12_most 24 [13, 42, 27, 28, 2, 182, 1, 80, 167, 0, 4, 2, 172] = true := by decide +kernel
theorem dX12_most_25 : decode cX12_most 25 = .ok (.aload_n 0, 1) := dq42 bw_cX12_most_1 1 rfl rfl
theorem dX12_most_26 : decode cX12_most 26 = .ok (.iload_n 1, 1) := dq27 bw_cX12_most_1 2 rfl rfl
theorem dX12_most_27 : decode cX12_most 27 = .ok (.iload_n 2, 1) := dq28 bw_cX12_most_1 3 rfl rfl
theorem dX12_most_28 : decode cX12_most 28 = .ok (.iconst (-1), 1) := dq2 bw_cX12_most_1 4 rfl rfl
theorem dX12_most_29 : decode cX12_most 29 = .ok (.invokevirtual 336, 3) := dq182 bw_cX12_most_1 5 rfl rfl rfl
theorem dX12_most_32 : decode cX12_most 32 = .ok (.goto 4, 3) := dq167 bw_cX12_most_1 8 rfl rfl rfl
theorem dX12_most_35 : decode cX12_most 35 = .ok (.iconst (-1), 1) := dq2 bw_cX12_most_1 11 rfl rfl
theorem dX12_most_36 : decode cX12_most 36 = .ok (.ireturn, 1) := dq172 bw_cX12_most_1 12 rfl rfl
theorem bw_cX12_home_0 : dq_w cX12_home 0 [42, 3, 181, 0, 3, 42, 27, 182, 0, 157, 153, 0, 25, 28, 133, 9, 20, 0, 167, 184, 0, 17, 153, 0, 13, 42, 27] = true := by decide +kernel
theorem dX12_home_0 : decode cX12_home 0 = .ok (.aload_n 0, 1) := dq42 bw_cX12_home_0 0 rfl rfl
theorem dX12_home_1 : decode cX12_home 1 = .ok (.iconst 0, 1) := dq3 bw_cX12_home_0 1 rfl rfl
theorem dX12_home_2 : decode cX12_home 2 = .ok (.putfield 3, 3) := dq181 bw_cX12_home_0 2 rfl rfl rfl
theorem dX12_home_5 : decode cX12_home 5 = .ok (.aload_n 0, 1) := dq42 bw_cX12_home_0 5 rfl rfl
theorem dX12_home_6 : decode cX12_home 6 = .ok (.iload_n 1, 1) := dq27 bw_cX12_home_0 6 rfl rfl
theorem dX12_home_7 : decode cX12_home 7 = .ok (.invokevirtual 157, 3) := dq182 bw_cX12_home_0 7 rfl rfl rfl
theorem dX12_home_10 : decode cX12_home 10 = .ok (.ifCond .eq 25, 3) := dq153 bw_cX12_home_0 10 rfl rfl rfl
theorem dX12_home_13 : decode cX12_home 13 = .ok (.iload_n 2, 1) := dq28 bw_cX12_home_0 13 rfl rfl
theorem dX12_home_14 : decode cX12_home 14 = .ok (.i2l, 1) := dq133 bw_cX12_home_0 14 rfl rfl
theorem dX12_home_15 : decode cX12_home 15 = .ok (.lconst 0, 1) := dq9 bw_cX12_home_0 15 rfl rfl
theorem dX12_home_16 : decode cX12_home 16 = .ok (.ldc2_w 167, 3) := dq20 bw_cX12_home_0 16 rfl rfl rfl
theorem dX12_home_19 : decode cX12_home 19 = .ok (.invokestatic 17, 3) := dq184 bw_cX12_home_0 19 rfl rfl rfl
theorem dX12_home_22 : decode cX12_home 22 = .ok (.ifCond .eq 13, 3) := dq153 bw_cX12_home_0 22 rfl rfl rfl
theorem bw_cX12_home_1 : dq_w cX12_home 24 [13, 42, 27, 28, 27, 182, 1, 80, 167, 0, 4, 2, 172] = true := by decide +kernel
theorem dX12_home_25 : decode cX12_home 25 = .ok (.aload_n 0, 1) := dq42 bw_cX12_home_1 1 rfl rfl
theorem dX12_home_26 : decode cX12_home 26 = .ok (.iload_n 1, 1) := dq27 bw_cX12_home_1 2 rfl rfl
theorem dX12_home_27 : decode cX12_home 27 = .ok (.iload_n 2, 1) := dq28 bw_cX12_home_1 3 rfl rfl
theorem dX12_home_28 : decode cX12_home 28 = .ok (.iload_n 1, 1) := dq27 bw_cX12_home_1 4 rfl rfl
theorem dX12_home_29 : decode cX12_home 29 = .ok (.invokevirtual 336, 3) := dq182 bw_cX12_home_1 5 rfl rfl rfl
theorem dX12_home_32 : decode cX12_home 32 = .ok (.goto 4, 3) := dq167 bw_cX12_home_1 8 rfl rfl rfl
theorem dX12_home_35 : decode cX12_home 35 = .ok (.iconst (-1), 1) := dq2 bw_cX12_home_1 11 rfl rfl
theorem dX12_home_36 : decode cX12_home 36 = .ok (.ireturn, 1) := dq172 bw_cX12_home_1 12 rfl rfl
theorem bw_cX12_soon_0 : dq_w cX12_soon 0 [42, 3, 181, 0, 3, 42, 27, 182, 0, 157, 153, 0, 15, 28, 133, 9, 20, 1, 83, 184, 0, 17, 154, 0, 5, 2, 172] = true := by decide +kernel
theorem dX12_soon_0 : decode cX12_soon 0 = .ok (.aload_n 0, 1) := dq42 bw_cX12_soon_0 0 rfl rfl
theorem dX12_soon_1 : decode cX12_soon 1 = .ok (.iconst 0, 1) := dq3 bw_cX12_soon_0 1 rfl rfl
theorem dX12_soon_2 : decode cX12_soon 2 = .ok (.putfield 3, 3) := dq181 bw_cX12_soon_0 2 rfl rfl rfl
theorem dX12_soon_5 : decode cX12_soon 5 = .ok (.aload_n 0, 1) := dq42 bw_cX12_soon_0 5 rfl rfl
theorem dX12_soon_6 : decode cX12_soon 6 = .ok (.iload_n 1, 1) := dq27 bw_cX12_soon_0 6 rfl rfl
theorem dX12_soon_7 : decode cX12_soon 7 = .ok (.invokevirtual 157, 3) := dq182 bw_cX12_soon_0 7 rfl rfl rfl
theorem dX12_soon_10 : decode cX12_soon 10 = .ok (.ifCond .eq 15, 3) := dq153 bw_cX12_soon_0 10 rfl rfl rfl
theorem dX12_soon_13 : decode cX12_soon 13 = .ok (.iload_n 2, 1) := dq28 bw_cX12_soon_0 13 rfl rfl
theorem dX12_soon_14 : decode cX12_soon 14 = .ok (.i2l, 1) := dq133 bw_cX12_soon_0 14 rfl rfl
theorem dX12_soon_15 : decode cX12_soon 15 = .ok (.lconst 0, 1) := dq9 bw_cX12_soon_0 15 rfl rfl
theorem dX12_soon_16 : decode cX12_soon 16 = .ok (.ldc2_w 339, 3) := dq20 bw_cX12_soon_0 16 rfl rfl rfl
theorem dX12_soon_19 : decode cX12_soon 19 = .ok (.invokestatic 17, 3) := dq184 bw_cX12_soon_0 19 rfl rfl rfl
theorem dX12_soon_22 : decode cX12_soon 22 = .ok (.ifCond .ne 5, 3) := dq154 bw_cX12_soon_0 22 rfl rfl rfl
theorem bw_cX12_soon_1 : dq_w cX12_soon 24 [5, 2, 172, 42, 27, 182, 1, 71, 2, 62, 19, 1, 70, 54, 4, 3, 54, 5, 21, 5, 42, 182, 1, 10, 163, 0, 43] = true := by decide +kernel
theorem dX12_soon_25 : decode cX12_soon 25 = .ok (.iconst (-1), 1) := dq2 bw_cX12_soon_1 1 rfl rfl
theorem dX12_soon_26 : decode cX12_soon 26 = .ok (.ireturn, 1) := dq172 bw_cX12_soon_1 2 rfl rfl
theorem dX12_soon_27 : decode cX12_soon 27 = .ok (.aload_n 0, 1) := dq42 bw_cX12_soon_1 3 rfl rfl
theorem dX12_soon_28 : decode cX12_soon 28 = .ok (.iload_n 1, 1) := dq27 bw_cX12_soon_1 4 rfl rfl
theorem dX12_soon_29 : decode cX12_soon 29 = .ok (.invokevirtual 327, 3) := dq182 bw_cX12_soon_1 5 rfl rfl rfl
theorem dX12_soon_32 : decode cX12_soon 32 = .ok (.iconst (-1), 1) := dq2 bw_cX12_soon_1 8 rfl rfl
theorem dX12_soon_33 : decode cX12_soon 33 = .ok (.istore_n 3, 1) := dq62 bw_cX12_soon_1 9 rfl rfl
theorem dX12_soon_34 : decode cX12_soon 34 = .ok (.ldc_w 326, 3) := dq19 bw_cX12_soon_1 10 rfl rfl rfl
theorem dX12_soon_37 : decode cX12_soon 37 = .ok (.istore 4, 2) := dq54 bw_cX12_soon_1 13 rfl rfl
theorem dX12_soon_39 : decode cX12_soon 39 = .ok (.iconst 0, 1) := dq3 bw_cX12_soon_1 15 rfl rfl
theorem dX12_soon_40 : decode cX12_soon 40 = .ok (.istore 5, 2) := dq54 bw_cX12_soon_1 16 rfl rfl
theorem dX12_soon_42 : decode cX12_soon 42 = .ok (.iload 5, 2) := dq21 bw_cX12_soon_1 18 rfl rfl
theorem dX12_soon_44 : decode cX12_soon 44 = .ok (.aload_n 0, 1) := dq42 bw_cX12_soon_1 20 rfl rfl
theorem dX12_soon_45 : decode cX12_soon 45 = .ok (.invokevirtual 266, 3) := dq182 bw_cX12_soon_1 21 rfl rfl rfl
theorem bw_cX12_soon_2 : dq_w cX12_soon 48 [163, 0, 43, 42, 21, 5, 182, 1, 77, 28, 161, 0, 27, 42, 21, 5, 2, 182, 1, 74, 21, 4, 162, 0, 15, 21, 5] = true := by decide +kernel
theorem dX12_soon_48 : decode cX12_soon 48 = .ok (.if_icmp .gt 43, 3) := dq163 bw_cX12_soon_2 0 rfl rfl rfl
theorem dX12_soon_51 : decode cX12_soon 51 = .ok (.aload_n 0, 1) := dq42 bw_cX12_soon_2 3 rfl rfl
theorem dX12_soon_52 : decode cX12_soon 52 = .ok (.iload 5, 2) := dq21 bw_cX12_soon_2 4 rfl rfl
theorem dX12_soon_54 : decode cX12_soon 54 = .ok (.invokevirtual 333, 3) := dq182 bw_cX12_soon_2 6 rfl rfl rfl
theorem dX12_soon_57 : decode cX12_soon 57 = .ok (.iload_n 2, 1) := dq28 bw_cX12_soon_2 9 rfl rfl
theorem dX12_soon_58 : decode cX12_soon 58 = .ok (.if_icmp .lt 27, 3) := dq161 bw_cX12_soon_2 10 rfl rfl rfl
theorem dX12_soon_61 : decode cX12_soon 61 = .ok (.aload_n 0, 1) := dq42 bw_cX12_soon_2 13 rfl rfl
theorem dX12_soon_62 : decode cX12_soon 62 = .ok (.iload 5, 2) := dq21 bw_cX12_soon_2 14 rfl rfl
theorem dX12_soon_64 : decode cX12_soon 64 = .ok (.iconst (-1), 1) := dq2 bw_cX12_soon_2 16 rfl rfl
theorem dX12_soon_65 : decode cX12_soon 65 = .ok (.invokevirtual 330, 3) := dq182 bw_cX12_soon_2 17 rfl rfl rfl
theorem dX12_soon_68 : decode cX12_soon 68 = .ok (.iload 4, 2) := dq21 bw_cX12_soon_2 20 rfl rfl
theorem dX12_soon_70 : decode cX12_soon 70 = .ok (.if_icmp .ge 15, 3) := dq162 bw_cX12_soon_2 22 rfl rfl rfl
theorem bw_cX12_soon_3 : dq_w cX12_soon 72 [15, 21, 5, 62, 42, 21, 5, 2, 182, 1, 74, 54, 4, 132, 5, 1, 167, 255, 210, 29, 156, 0, 6, 16, 254, 172, 42] = true := by decide +kernel
theorem dX12_soon_73 : decode cX12_soon 73 = .ok (.iload 5, 2) := dq21 bw_cX12_soon_3 1 rfl rfl
theorem dX12_soon_75 : decode cX12_soon 75 = .ok (.istore_n 3, 1) := dq62 bw_cX12_soon_3 3 rfl rfl
theorem dX12_soon_76 : decode cX12_soon 76 = .ok (.aload_n 0, 1) := dq42 bw_cX12_soon_3 4 rfl rfl
theorem dX12_soon_77 : decode cX12_soon 77 = .ok (.iload 5, 2) := dq21 bw_cX12_soon_3 5 rfl rfl
theorem dX12_soon_79 : decode cX12_soon 79 = .ok (.iconst (-1), 1) := dq2 bw_cX12_soon_3 7 rfl rfl
theorem dX12_soon_80 : decode cX12_soon 80 = .ok (.invokevirtual 330, 3) := dq182 bw_cX12_soon_3 8 rfl rfl rfl
theorem dX12_soon_83 : decode cX12_soon 83 = .ok (.istore 4, 2) := dq54 bw_cX12_soon_3 11 rfl rfl
theorem dX12_soon_85 : decode cX12_soon 85 = .ok (.iinc 5 1, 3) := dq132 bw_cX12_soon_3 13 rfl rfl rfl
theorem dX12_soon_88 : decode cX12_soon 88 = .ok (.goto (-46), 3) := dq167 bw_cX12_soon_3 16 rfl rfl rfl
theorem dX12_soon_91 : decode cX12_soon 91 = .ok (.iload_n 3, 1) := dq29 bw_cX12_soon_3 19 rfl rfl
theorem dX12_soon_92 : decode cX12_soon 92 = .ok (.ifCond .ge 6, 3) := dq156 bw_cX12_soon_3 20 rfl rfl rfl
theorem dX12_soon_95 : decode cX12_soon 95 = .ok (.bipush (-2), 2) := dq16 bw_cX12_soon_3 23 rfl rfl rfl
theorem bw_cX12_soon_4 : dq_w cX12_soon 96 [254, 172, 42, 3, 181, 0, 11, 42, 29, 182, 0, 229, 21, 4, 172] = true := by decide +kernel
theorem dX12_soon_97 : decode cX12_soon 97 = .ok (.ireturn, 1) := dq172 bw_cX12_soon_4 1 rfl rfl
theorem dX12_soon_98 : decode cX12_soon 98 = .ok (.aload_n 0, 1) := dq42 bw_cX12_soon_4 2 rfl rfl
theorem dX12_soon_99 : decode cX12_soon 99 = .ok (.iconst 0, 1) := dq3 bw_cX12_soon_4 3 rfl rfl
theorem dX12_soon_100 : decode cX12_soon 100 = .ok (.putfield 11, 3) := dq181 bw_cX12_soon_4 4 rfl rfl rfl
theorem dX12_soon_103 : decode cX12_soon 103 = .ok (.aload_n 0, 1) := dq42 bw_cX12_soon_4 7 rfl rfl
theorem dX12_soon_104 : decode cX12_soon 104 = .ok (.iload_n 3, 1) := dq29 bw_cX12_soon_4 8 rfl rfl
theorem dX12_soon_105 : decode cX12_soon 105 = .ok (.invokevirtual 229, 3) := dq182 bw_cX12_soon_4 9 rfl rfl rfl
theorem dX12_soon_108 : decode cX12_soon 108 = .ok (.iload 4, 2) := dq21 bw_cX12_soon_4 12 rfl rfl
theorem dX12_soon_110 : decode cX12_soon 110 = .ok (.ireturn, 1) := dq172 bw_cX12_soon_4 14 rfl rfl
theorem bw_cX12_bridges_0 : dq_w cX12_bridges 0 [42, 3, 181, 0, 3, 3, 60, 3, 61, 28, 42, 180, 0, 21, 162, 0, 58, 42, 42, 182, 1, 10, 4, 28, 120, 2, 130] = true := by decide +kernel
theorem dX12_bridges_0 : decode cX12_bridges 0 = .ok (.aload_n 0, 1) := dq42 bw_cX12_bridges_0 0 rfl rfl
theorem dX12_bridges_1 : decode cX12_bridges 1 = .ok (.iconst 0, 1) := dq3 bw_cX12_bridges_0 1 rfl rfl
theorem dX12_bridges_2 : decode cX12_bridges 2 = .ok (.putfield 3, 3) := dq181 bw_cX12_bridges_0 2 rfl rfl rfl
theorem dX12_bridges_5 : decode cX12_bridges 5 = .ok (.iconst 0, 1) := dq3 bw_cX12_bridges_0 5 rfl rfl
theorem dX12_bridges_6 : decode cX12_bridges 6 = .ok (.istore_n 1, 1) := dq60 bw_cX12_bridges_0 6 rfl rfl
theorem dX12_bridges_7 : decode cX12_bridges 7 = .ok (.iconst 0, 1) := dq3 bw_cX12_bridges_0 7 rfl rfl
theorem dX12_bridges_8 : decode cX12_bridges 8 = .ok (.istore_n 2, 1) := dq61 bw_cX12_bridges_0 8 rfl rfl
theorem dX12_bridges_9 : decode cX12_bridges 9 = .ok (.iload_n 2, 1) := dq28 bw_cX12_bridges_0 9 rfl rfl
theorem dX12_bridges_10 : decode cX12_bridges 10 = .ok (.aload_n 0, 1) := dq42 bw_cX12_bridges_0 10 rfl rfl
theorem dX12_bridges_11 : decode cX12_bridges 11 = .ok (.getfield 21, 3) := dq180 bw_cX12_bridges_0 11 rfl rfl rfl
theorem dX12_bridges_14 : decode cX12_bridges 14 = .ok (.if_icmp .ge 58, 3) := dq162 bw_cX12_bridges_0 14 rfl rfl rfl
theorem dX12_bridges_17 : decode cX12_bridges 17 = .ok (.aload_n 0, 1) := dq42 bw_cX12_bridges_0 17 rfl rfl
theorem dX12_bridges_18 : decode cX12_bridges 18 = .ok (.aload_n 0, 1) := dq42 bw_cX12_bridges_0 18 rfl rfl
theorem dX12_bridges_19 : decode cX12_bridges 19 = .ok (.invokevirtual 266, 3) := dq182 bw_cX12_bridges_0 19 rfl rfl rfl
theorem dX12_bridges_22 : decode cX12_bridges 22 = .ok (.iconst 1, 1) := dq4 bw_cX12_bridges_0 22 rfl rfl
theorem dX12_bridges_23 : decode cX12_bridges 23 = .ok (.iload_n 2, 1) := dq28 bw_cX12_bridges_0 23 rfl rfl
theorem bw_cX12_bridges_1 : dq_w cX12_bridges 24 [120, 2, 130, 126, 182, 1, 21, 27, 42, 180, 1, 7, 42, 180, 0, 74, 28, 46, 46, 42, 180, 1, 7, 42, 180, 0, 80] = true := by decide +kernel
theorem dX12_bridges_24 : decode cX12_bridges 24 = .ok (.ishl, 1) := dq120 bw_cX12_bridges_1 0 rfl rfl
theorem dX12_bridges_25 : decode cX12_bridges 25 = .ok (.iconst (-1), 1) := dq2 bw_cX12_bridges_1 1 rfl rfl
theorem dX12_bridges_26 : decode cX12_bridges 26 = .ok (.ixor, 1) := dq130 bw_cX12_bridges_1 2 rfl rfl
theorem dX12_bridges_27 : decode cX12_bridges 27 = .ok (.iand, 1) := dq126 bw_cX12_bridges_1 3 rfl rfl
theorem dX12_bridges_28 : decode cX12_bridges 28 = .ok (.invokevirtual 277, 3) := dq182 bw_cX12_bridges_1 4 rfl rfl rfl
theorem dX12_bridges_31 : decode cX12_bridges 31 = .ok (.iload_n 1, 1) := dq27 bw_cX12_bridges_1 7 rfl rfl
theorem dX12_bridges_32 : decode cX12_bridges 32 = .ok (.aload_n 0, 1) := dq42 bw_cX12_bridges_1 8 rfl rfl
theorem dX12_bridges_33 : decode cX12_bridges 33 = .ok (.getfield 263, 3) := dq180 bw_cX12_bridges_1 9 rfl rfl rfl
theorem dX12_bridges_36 : decode cX12_bridges 36 = .ok (.aload_n 0, 1) := dq42 bw_cX12_bridges_1 12 rfl rfl
theorem dX12_bridges_37 : decode cX12_bridges 37 = .ok (.getfield 74, 3) := dq180 bw_cX12_bridges_1 13 rfl rfl rfl
theorem dX12_bridges_40 : decode cX12_bridges 40 = .ok (.iload_n 2, 1) := dq28 bw_cX12_bridges_1 16 rfl rfl
theorem dX12_bridges_41 : decode cX12_bridges 41 = .ok (.iaload, 1) := dq46 bw_cX12_bridges_1 17 rfl rfl
theorem dX12_bridges_42 : decode cX12_bridges 42 = .ok (.iaload, 1) := dq46 bw_cX12_bridges_1 18 rfl rfl
theorem dX12_bridges_43 : decode cX12_bridges 43 = .ok (.aload_n 0, 1) := dq42 bw_cX12_bridges_1 19 rfl rfl
theorem dX12_bridges_44 : decode cX12_bridges 44 = .ok (.getfield 263, 3) := dq180 bw_cX12_bridges_1 20 rfl rfl rfl
theorem dX12_bridges_47 : decode cX12_bridges 47 = .ok (.aload_n 0, 1) := dq42 bw_cX12_bridges_1 23 rfl rfl
theorem bw_cX12_bridges_2 : dq_w cX12_bridges 48 [180, 0, 80, 28, 46, 46, 159, 0, 9, 4, 28, 120, 167, 0, 4, 3, 128, 60, 132, 2, 1, 167, 255, 196, 27, 172] = true := by decide +kernel
theorem dX12_bridges_48 : decode cX12_bridges 48 = .ok (.getfield 80, 3) := dq180 bw_cX12_bridges_2 0 rfl rfl rfl
theorem dX12_bridges_51 : decode cX12_bridges 51 = .ok (.iload_n 2, 1) := dq28 bw_cX12_bridges_2 3 rfl rfl
theorem dX12_bridges_52 : decode cX12_bridges 52 = .ok (.iaload, 1) := dq46 bw_cX12_bridges_2 4 rfl rfl
theorem dX12_bridges_53 : decode cX12_bridges 53 = .ok (.iaload, 1) := dq46 bw_cX12_bridges_2 5 rfl rfl
theorem dX12_bridges_54 : decode cX12_bridges 54 = .ok (.if_icmp .eq 9, 3) := dq159 bw_cX12_bridges_2 6 rfl rfl rfl
theorem dX12_bridges_57 : decode cX12_bridges 57 = .ok (.iconst 1, 1) := dq4 bw_cX12_bridges_2 9 rfl rfl
theorem dX12_bridges_58 : decode cX12_bridges 58 = .ok (.iload_n 2, 1) := dq28 bw_cX12_bridges_2 10 rfl rfl
theorem dX12_bridges_59 : decode cX12_bridges 59 = .ok (.ishl, 1) := dq120 bw_cX12_bridges_2 11 rfl rfl
theorem dX12_bridges_60 : decode cX12_bridges 60 = .ok (.goto 4, 3) := dq167 bw_cX12_bridges_2 12 rfl rfl rfl
theorem dX12_bridges_63 : decode cX12_bridges 63 = .ok (.iconst 0, 1) := dq3 bw_cX12_bridges_2 15 rfl rfl
theorem dX12_bridges_64 : decode cX12_bridges 64 = .ok (.ior, 1) := dq128 bw_cX12_bridges_2 16 rfl rfl
theorem dX12_bridges_65 : decode cX12_bridges 65 = .ok (.istore_n 1, 1) := dq60 bw_cX12_bridges_2 17 rfl rfl
theorem dX12_bridges_66 : decode cX12_bridges 66 = .ok (.iinc 2 1, 3) := dq132 bw_cX12_bridges_2 18 rfl rfl rfl
theorem dX12_bridges_69 : decode cX12_bridges 69 = .ok (.goto (-60), 3) := dq167 bw_cX12_bridges_2 21 rfl rfl rfl
theorem bw_cX12_bridges_3 : dq_w cX12_bridges 72 [27, 172] = true := by decide +kernel
theorem dX12_bridges_72 : decode cX12_bridges 72 = .ok (.iload_n 1, 1) := dq27 bw_cX12_bridges_3 0 rfl rfl
theorem dX12_bridges_73 : decode cX12_bridges 73 = .ok (.ireturn, 1) := dq172 bw_cX12_bridges_3 1 rfl rfl
theorem bw_cX12_reach_0 : dq_w cX12_reach 0 [42, 3, 181, 0, 3, 42, 180, 0, 14, 153, 0, 21, 27, 133, 20, 1, 85, 42, 180, 0, 21, 4, 100, 133, 184, 0, 17] = true := by decide +kernel
theorem dX12_reach_0 : decode cX12_reach 0 = .ok (.aload_n 0, 1) := dq42 bw_cX12_reach_0 0 rfl rfl
theorem dX12_reach_1 : decode cX12_reach 1 = .ok (.iconst 0, 1) := dq3 bw_cX12_reach_0 1 rfl rfl
theorem dX12_reach_2 : decode cX12_reach 2 = .ok (.putfield 3, 3) := dq181 bw_cX12_reach_0 2 rfl rfl rfl
theorem dX12_reach_5 : decode cX12_reach 5 = .ok (.aload_n 0, 1) := dq42 bw_cX12_reach_0 5 rfl rfl
theorem dX12_reach_6 : decode cX12_reach 6 = .ok (.getfield 14, 3) := dq180 bw_cX12_reach_0 6 rfl rfl rfl
theorem dX12_reach_9 : decode cX12_reach 9 = .ok (.ifCond .eq 21, 3) := dq153 bw_cX12_reach_0 9 rfl rfl rfl
theorem dX12_reach_12 : decode cX12_reach 12 = .ok (.iload_n 1, 1) := dq27 bw_cX12_reach_0 12 rfl rfl
theorem dX12_reach_13 : decode cX12_reach 13 = .ok (.i2l, 1) := dq133 bw_cX12_reach_0 13 rfl rfl
theorem dX12_reach_14 : decode cX12_reach 14 = .ok (.ldc2_w 341, 3) := dq20 bw_cX12_reach_0 14 rfl rfl rfl
theorem dX12_reach_17 : decode cX12_reach 17 = .ok (.aload_n 0, 1) := dq42 bw_cX12_reach_0 17 rfl rfl
theorem dX12_reach_18 : decode cX12_reach 18 = .ok (.getfield 21, 3) := dq180 bw_cX12_reach_0 18 rfl rfl rfl
theorem dX12_reach_21 : decode cX12_reach 21 = .ok (.iconst 1, 1) := dq4 bw_cX12_reach_0 21 rfl rfl
theorem dX12_reach_22 : decode cX12_reach 22 = .ok (.isub, 1) := dq100 bw_cX12_reach_0 22 rfl rfl
theorem dX12_reach_23 : decode cX12_reach 23 = .ok (.i2l, 1) := dq133 bw_cX12_reach_0 23 rfl rfl
theorem bw_cX12_reach_1 : dq_w cX12_reach 24 [184, 0, 17, 154, 0, 8, 42, 182, 0, 140, 172, 3, 61, 3, 62, 29, 42, 180, 0, 21, 162, 0, 36, 28, 29, 27, 159] = true := by decide +kernel
theorem dX12_reach_24 : decode cX12_reach 24 = .ok (.invokestatic 17, 3) := dq184 bw_cX12_reach_1 0 rfl rfl rfl
theorem dX12_reach_27 : decode cX12_reach 27 = .ok (.ifCond .ne 8, 3) := dq154 bw_cX12_reach_1 3 rfl rfl rfl
theorem dX12_reach_30 : decode cX12_reach 30 = .ok (.aload_n 0, 1) := dq42 bw_cX12_reach_1 6 rfl rfl
theorem dX12_reach_31 : decode cX12_reach 31 = .ok (.invokevirtual 140, 3) := dq182 bw_cX12_reach_1 7 rfl rfl rfl
theorem dX12_reach_34 : decode cX12_reach 34 = .ok (.ireturn, 1) := dq172 bw_cX12_reach_1 10 rfl rfl
theorem dX12_reach_35 : decode cX12_reach 35 = .ok (.iconst 0, 1) := dq3 bw_cX12_reach_1 11 rfl rfl
theorem dX12_reach_36 : decode cX12_reach 36 = .ok (.istore_n 2, 1) := dq61 bw_cX12_reach_1 12 rfl rfl
theorem dX12_reach_37 : decode cX12_reach 37 = .ok (.iconst 0, 1) := dq3 bw_cX12_reach_1 13 rfl rfl
theorem dX12_reach_38 : decode cX12_reach 38 = .ok (.istore_n 3, 1) := dq62 bw_cX12_reach_1 14 rfl rfl
theorem dX12_reach_39 : decode cX12_reach 39 = .ok (.iload_n 3, 1) := dq29 bw_cX12_reach_1 15 rfl rfl
theorem dX12_reach_40 : decode cX12_reach 40 = .ok (.aload_n 0, 1) := dq42 bw_cX12_reach_1 16 rfl rfl
theorem dX12_reach_41 : decode cX12_reach 41 = .ok (.getfield 21, 3) := dq180 bw_cX12_reach_1 17 rfl rfl rfl
theorem dX12_reach_44 : decode cX12_reach 44 = .ok (.if_icmp .ge 36, 3) := dq162 bw_cX12_reach_1 20 rfl rfl rfl
theorem dX12_reach_47 : decode cX12_reach 47 = .ok (.iload_n 2, 1) := dq28 bw_cX12_reach_1 23 rfl rfl
theorem bw_cX12_reach_2 : dq_w cX12_reach 48 [29, 27, 159, 0, 21, 42, 29, 42, 180, 0, 148, 182, 0, 151, 153, 0, 9, 4, 29, 120, 167, 0, 4, 3, 128, 61, 132] = true := by decide +kernel
theorem dX12_reach_48 : decode cX12_reach 48 = .ok (.iload_n 3, 1) := dq29 bw_cX12_reach_2 0 rfl rfl
theorem dX12_reach_49 : decode cX12_reach 49 = .ok (.iload_n 1, 1) := dq27 bw_cX12_reach_2 1 rfl rfl
theorem dX12_reach_50 : decode cX12_reach 50 = .ok (.if_icmp .eq 21, 3) := dq159 bw_cX12_reach_2 2 rfl rfl rfl
theorem dX12_reach_53 : decode cX12_reach 53 = .ok (.aload_n 0, 1) := dq42 bw_cX12_reach_2 5 rfl rfl
theorem dX12_reach_54 : decode cX12_reach 54 = .ok (.iload_n 3, 1) := dq29 bw_cX12_reach_2 6 rfl rfl
theorem dX12_reach_55 : decode cX12_reach 55 = .ok (.aload_n 0, 1) := dq42 bw_cX12_reach_2 7 rfl rfl
theorem dX12_reach_56 : decode cX12_reach 56 = .ok (.getfield 148, 3) := dq180 bw_cX12_reach_2 8 rfl rfl rfl
theorem dX12_reach_59 : decode cX12_reach 59 = .ok (.invokevirtual 151, 3) := dq182 bw_cX12_reach_2 11 rfl rfl rfl
theorem dX12_reach_62 : decode cX12_reach 62 = .ok (.ifCond .eq 9, 3) := dq153 bw_cX12_reach_2 14 rfl rfl rfl
theorem dX12_reach_65 : decode cX12_reach 65 = .ok (.iconst 1, 1) := dq4 bw_cX12_reach_2 17 rfl rfl
theorem dX12_reach_66 : decode cX12_reach 66 = .ok (.iload_n 3, 1) := dq29 bw_cX12_reach_2 18 rfl rfl
theorem dX12_reach_67 : decode cX12_reach 67 = .ok (.ishl, 1) := dq120 bw_cX12_reach_2 19 rfl rfl
theorem dX12_reach_68 : decode cX12_reach 68 = .ok (.goto 4, 3) := dq167 bw_cX12_reach_2 20 rfl rfl rfl
theorem dX12_reach_71 : decode cX12_reach 71 = .ok (.iconst 0, 1) := dq3 bw_cX12_reach_2 23 rfl rfl
theorem bw_cX12_reach_3 : dq_w cX12_reach 72 [128, 61, 132, 3, 1, 167, 255, 218, 42, 28, 182, 1, 21, 3, 62, 3, 54, 4, 21, 4, 42, 180, 0, 14, 162, 0, 39] = true := by decide +kernel
theorem dX12_reach_72 : decode cX12_reach 72 = .ok (.ior, 1) := dq128 bw_cX12_reach_3 0 rfl rfl
theorem dX12_reach_73 : decode cX12_reach 73 = .ok (.istore_n 2, 1) := dq61 bw_cX12_reach_3 1 rfl rfl
theorem dX12_reach_74 : decode cX12_reach 74 = .ok (.iinc 3 1, 3) := dq132 bw_cX12_reach_3 2 rfl rfl rfl
theorem dX12_reach_77 : decode cX12_reach 77 = .ok (.goto (-38), 3) := dq167 bw_cX12_reach_3 5 rfl rfl rfl
theorem dX12_reach_80 : decode cX12_reach 80 = .ok (.aload_n 0, 1) := dq42 bw_cX12_reach_3 8 rfl rfl
theorem dX12_reach_81 : decode cX12_reach 81 = .ok (.iload_n 2, 1) := dq28 bw_cX12_reach_3 9 rfl rfl
theorem dX12_reach_82 : decode cX12_reach 82 = .ok (.invokevirtual 277, 3) := dq182 bw_cX12_reach_3 10 rfl rfl rfl
theorem dX12_reach_85 : decode cX12_reach 85 = .ok (.iconst 0, 1) := dq3 bw_cX12_reach_3 13 rfl rfl
theorem dX12_reach_86 : decode cX12_reach 86 = .ok (.istore_n 3, 1) := dq62 bw_cX12_reach_3 14 rfl rfl
theorem dX12_reach_87 : decode cX12_reach 87 = .ok (.iconst 0, 1) := dq3 bw_cX12_reach_3 15 rfl rfl
theorem dX12_reach_88 : decode cX12_reach 88 = .ok (.istore 4, 2) := dq54 bw_cX12_reach_3 16 rfl rfl
theorem dX12_reach_90 : decode cX12_reach 90 = .ok (.iload 4, 2) := dq21 bw_cX12_reach_3 18 rfl rfl
theorem dX12_reach_92 : decode cX12_reach 92 = .ok (.aload_n 0, 1) := dq42 bw_cX12_reach_3 20 rfl rfl
theorem dX12_reach_93 : decode cX12_reach 93 = .ok (.getfield 14, 3) := dq180 bw_cX12_reach_3 21 rfl rfl rfl
theorem bw_cX12_reach_4 : dq_w cX12_reach 96 [162, 0, 39, 29, 42, 180, 1, 7, 21, 4, 46, 42, 180, 1, 7, 42, 180, 0, 177, 46, 160, 0, 10, 4, 21, 4, 120] = true := by decide +kernel
theorem dX12_reach_96 : decode cX12_reach 96 = .ok (.if_icmp .ge 39, 3) := dq162 bw_cX12_reach_4 0 rfl rfl rfl
theorem dX12_reach_99 : decode cX12_reach 99 = .ok (.iload_n 3, 1) := dq29 bw_cX12_reach_4 3 rfl rfl
theorem dX12_reach_100 : decode cX12_reach 100 = .ok (.aload_n 0, 1) := dq42 bw_cX12_reach_4 4 rfl rfl
theorem dX12_reach_101 : decode cX12_reach 101 = .ok (.getfield 263, 3) := dq180 bw_cX12_reach_4 5 rfl rfl rfl
theorem dX12_reach_104 : decode cX12_reach 104 = .ok (.iload 4, 2) := dq21 bw_cX12_reach_4 8 rfl rfl
theorem dX12_reach_106 : decode cX12_reach 106 = .ok (.iaload, 1) := dq46 bw_cX12_reach_4 10 rfl rfl
theorem dX12_reach_107 : decode cX12_reach 107 = .ok (.aload_n 0, 1) := dq42 bw_cX12_reach_4 11 rfl rfl
theorem dX12_reach_108 : decode cX12_reach 108 = .ok (.getfield 263, 3) := dq180 bw_cX12_reach_4 12 rfl rfl rfl
theorem dX12_reach_111 : decode cX12_reach 111 = .ok (.aload_n 0, 1) := dq42 bw_cX12_reach_4 15 rfl rfl
theorem dX12_reach_112 : decode cX12_reach 112 = .ok (.getfield 177, 3) := dq180 bw_cX12_reach_4 16 rfl rfl rfl
theorem dX12_reach_115 : decode cX12_reach 115 = .ok (.iaload, 1) := dq46 bw_cX12_reach_4 19 rfl rfl
theorem dX12_reach_116 : decode cX12_reach 116 = .ok (.if_icmp .ne 10, 3) := dq160 bw_cX12_reach_4 20 rfl rfl rfl
theorem dX12_reach_119 : decode cX12_reach 119 = .ok (.iconst 1, 1) := dq4 bw_cX12_reach_4 23 rfl rfl
theorem bw_cX12_reach_5 : dq_w cX12_reach 120 [21, 4, 120, 167, 0, 4, 3, 128, 62, 132, 4, 1, 167, 255, 214, 29, 172] = true := by decide +kernel
theorem dX12_reach_120 : decode cX12_reach 120 = .ok (.iload 4, 2) := dq21 bw_cX12_reach_5 0 rfl rfl
theorem dX12_reach_122 : decode cX12_reach 122 = .ok (.ishl, 1) := dq120 bw_cX12_reach_5 2 rfl rfl
theorem dX12_reach_123 : decode cX12_reach 123 = .ok (.goto 4, 3) := dq167 bw_cX12_reach_5 3 rfl rfl rfl
theorem dX12_reach_126 : decode cX12_reach 126 = .ok (.iconst 0, 1) := dq3 bw_cX12_reach_5 6 rfl rfl
theorem dX12_reach_127 : decode cX12_reach 127 = .ok (.ior, 1) := dq128 bw_cX12_reach_5 7 rfl rfl
theorem dX12_reach_128 : decode cX12_reach 128 = .ok (.istore_n 3, 1) := dq62 bw_cX12_reach_5 8 rfl rfl
theorem dX12_reach_129 : decode cX12_reach 129 = .ok (.iinc 4 1, 3) := dq132 bw_cX12_reach_5 9 rfl rfl rfl
theorem dX12_reach_132 : decode cX12_reach 132 = .ok (.goto (-42), 3) := dq167 bw_cX12_reach_5 12 rfl rfl rfl
theorem dX12_reach_135 : decode cX12_reach 135 = .ok (.iload_n 3, 1) := dq29 bw_cX12_reach_5 15 rfl rfl
theorem dX12_reach_136 : decode cX12_reach 136 = .ok (.ireturn, 1) := dq172 bw_cX12_reach_5 16 rfl rfl
theorem bw_cX12_shortens_0 : dq_w cX12_shortens 0 [42, 180, 1, 87, 16, 10, 27, 104, 28, 96, 42, 180, 1, 87, 16, 10, 27, 104, 28, 96, 46, 29, 184, 0, 33, 79, 177] = true := by decide +kernel
theorem dX12_shortens_0 : decode cX12_shortens 0 = .ok (.aload_n 0, 1) := dq42 bw_cX12_shortens_0 0 rfl rfl
theorem dX12_shortens_1 : decode cX12_shortens 1 = .ok (.getfield 343, 3) := dq180 bw_cX12_shortens_0 1 rfl rfl rfl
theorem dX12_shortens_4 : decode cX12_shortens 4 = .ok (.bipush 10, 2) := dq16 bw_cX12_shortens_0 4 rfl rfl rfl
theorem dX12_shortens_6 : decode cX12_shortens 6 = .ok (.iload_n 1, 1) := dq27 bw_cX12_shortens_0 6 rfl rfl
theorem dX12_shortens_7 : decode cX12_shortens 7 = .ok (.imul, 1) := dq104 bw_cX12_shortens_0 7 rfl rfl
theorem dX12_shortens_8 : decode cX12_shortens 8 = .ok (.iload_n 2, 1) := dq28 bw_cX12_shortens_0 8 rfl rfl
theorem dX12_shortens_9 : decode cX12_shortens 9 = .ok (.iadd, 1) := dq96 bw_cX12_shortens_0 9 rfl rfl
theorem dX12_shortens_10 : decode cX12_shortens 10 = .ok (.aload_n 0, 1) := dq42 bw_cX12_shortens_0 10 rfl rfl
theorem dX12_shortens_11 : decode cX12_shortens 11 = .ok (.getfield 343, 3) := dq180 bw_cX12_shortens_0 11 rfl rfl rfl
theorem dX12_shortens_14 : decode cX12_shortens 14 = .ok (.bipush 10, 2) := dq16 bw_cX12_shortens_0 14 rfl rfl rfl
theorem dX12_shortens_16 : decode cX12_shortens 16 = .ok (.iload_n 1, 1) := dq27 bw_cX12_shortens_0 16 rfl rfl
theorem dX12_shortens_17 : decode cX12_shortens 17 = .ok (.imul, 1) := dq104 bw_cX12_shortens_0 17 rfl rfl
theorem dX12_shortens_18 : decode cX12_shortens 18 = .ok (.iload_n 2, 1) := dq28 bw_cX12_shortens_0 18 rfl rfl
theorem dX12_shortens_19 : decode cX12_shortens 19 = .ok (.iadd, 1) := dq96 bw_cX12_shortens_0 19 rfl rfl
theorem dX12_shortens_20 : decode cX12_shortens 20 = .ok (.iaload, 1) := dq46 bw_cX12_shortens_0 20 rfl rfl
theorem dX12_shortens_21 : decode cX12_shortens 21 = .ok (.iload_n 3, 1) := dq29 bw_cX12_shortens_0 21 rfl rfl
theorem dX12_shortens_22 : decode cX12_shortens 22 = .ok (.invokestatic 33, 3) := dq184 bw_cX12_shortens_0 22 rfl rfl rfl
theorem bw_cX12_shortens_1 : dq_w cX12_shortens 24 [33, 79, 177] = true := by decide +kernel
theorem dX12_shortens_25 : decode cX12_shortens 25 = .ok (.iastore, 1) := dq79 bw_cX12_shortens_1 1 rfl rfl
theorem dX12_shortens_26 : decode cX12_shortens 26 = .ok (.return_, 1) := dq177 bw_cX12_shortens_1 2 rfl rfl
theorem bw_cX12_measures_0 : dq_w cX12_measures 0 [3, 60, 27, 42, 180, 0, 14, 162, 0, 48, 3, 61, 28, 42, 180, 0, 14, 162, 0, 32, 42, 180, 1, 87, 16, 10, 27] = true := by decide +kernel
theorem dX12_measures_0 : decode cX12_measures 0 = .ok (.iconst 0, 1) := dq3 bw_cX12_measures_0 0 rfl rfl
theorem dX12_measures_1 : decode cX12_measures 1 = .ok (.istore_n 1, 1) := dq60 bw_cX12_measures_0 1 rfl rfl
theorem dX12_measures_2 : decode cX12_measures 2 = .ok (.iload_n 1, 1) := dq27 bw_cX12_measures_0 2 rfl rfl
theorem dX12_measures_3 : decode cX12_measures 3 = .ok (.aload_n 0, 1) := dq42 bw_cX12_measures_0 3 rfl rfl
theorem dX12_measures_4 : decode cX12_measures 4 = .ok (.getfield 14, 3) := dq180 bw_cX12_measures_0 4 rfl rfl rfl
theorem dX12_measures_7 : decode cX12_measures 7 = .ok (.if_icmp .ge 48, 3) := dq162 bw_cX12_measures_0 7 rfl rfl rfl
theorem dX12_measures_10 : decode cX12_measures 10 = .ok (.iconst 0, 1) := dq3 bw_cX12_measures_0 10 rfl rfl
theorem dX12_measures_11 : decode cX12_measures 11 = .ok (.istore_n 2, 1) := dq61 bw_cX12_measures_0 11 rfl rfl
theorem dX12_measures_12 : decode cX12_measures 12 = .ok (.iload_n 2, 1) := dq28 bw_cX12_measures_0 12 rfl rfl
theorem dX12_measures_13 : decode cX12_measures 13 = .ok (.aload_n 0, 1) := dq42 bw_cX12_measures_0 13 rfl rfl
theorem dX12_measures_14 : decode cX12_measures 14 = .ok (.getfield 14, 3) := dq180 bw_cX12_measures_0 14 rfl rfl rfl
theorem dX12_measures_17 : decode cX12_measures 17 = .ok (.if_icmp .ge 32, 3) := dq162 bw_cX12_measures_0 17 rfl rfl rfl
theorem dX12_measures_20 : decode cX12_measures 20 = .ok (.aload_n 0, 1) := dq42 bw_cX12_measures_0 20 rfl rfl
theorem dX12_measures_21 : decode cX12_measures 21 = .ok (.getfield 343, 3) := dq180 bw_cX12_measures_0 21 rfl rfl rfl
theorem bw_cX12_measures_1 : dq_w cX12_measures 24 [16, 10, 27, 104, 28, 96, 27, 28, 160, 0, 7, 3, 167, 0, 6, 19, 1, 70, 79, 132, 2, 1, 167, 255, 222, 132, 1] = true := by decide +kernel
theorem dX12_measures_24 : decode cX12_measures 24 = .ok (.bipush 10, 2) := dq16 bw_cX12_measures_1 0 rfl rfl rfl
theorem dX12_measures_26 : decode cX12_measures 26 = .ok (.iload_n 1, 1) := dq27 bw_cX12_measures_1 2 rfl rfl
theorem dX12_measures_27 : decode cX12_measures 27 = .ok (.imul, 1) := dq104 bw_cX12_measures_1 3 rfl rfl
theorem dX12_measures_28 : decode cX12_measures 28 = .ok (.iload_n 2, 1) := dq28 bw_cX12_measures_1 4 rfl rfl
theorem dX12_measures_29 : decode cX12_measures 29 = .ok (.iadd, 1) := dq96 bw_cX12_measures_1 5 rfl rfl
theorem dX12_measures_30 : decode cX12_measures 30 = .ok (.iload_n 1, 1) := dq27 bw_cX12_measures_1 6 rfl rfl
theorem dX12_measures_31 : decode cX12_measures 31 = .ok (.iload_n 2, 1) := dq28 bw_cX12_measures_1 7 rfl rfl
theorem dX12_measures_32 : decode cX12_measures 32 = .ok (.if_icmp .ne 7, 3) := dq160 bw_cX12_measures_1 8 rfl rfl rfl
theorem dX12_measures_35 : decode cX12_measures 35 = .ok (.iconst 0, 1) := dq3 bw_cX12_measures_1 11 rfl rfl
theorem dX12_measures_36 : decode cX12_measures 36 = .ok (.goto 6, 3) := dq167 bw_cX12_measures_1 12 rfl rfl rfl
theorem dX12_measures_39 : decode cX12_measures 39 = .ok (.ldc_w 326, 3) := dq19 bw_cX12_measures_1 15 rfl rfl rfl
theorem dX12_measures_42 : decode cX12_measures 42 = .ok (.iastore, 1) := dq79 bw_cX12_measures_1 18 rfl rfl
theorem dX12_measures_43 : decode cX12_measures 43 = .ok (.iinc 2 1, 3) := dq132 bw_cX12_measures_1 19 rfl rfl rfl
theorem dX12_measures_46 : decode cX12_measures 46 = .ok (.goto (-34), 3) := dq167 bw_cX12_measures_1 22 rfl rfl rfl
theorem bw_cX12_measures_2 : dq_w cX12_measures 48 [222, 132, 1, 1, 167, 255, 206, 3, 60, 27, 42, 180, 0, 21, 162, 0, 74, 42, 180, 0, 123, 27, 184, 0, 144, 154, 0] = true := by decide +kernel
theorem dX12_measures_49 : decode cX12_measures 49 = .ok (.iinc 1 1, 3) := dq132 bw_cX12_measures_2 1 rfl rfl rfl
theorem dX12_measures_52 : decode cX12_measures 52 = .ok (.goto (-50), 3) := dq167 bw_cX12_measures_2 4 rfl rfl rfl
theorem dX12_measures_55 : decode cX12_measures 55 = .ok (.iconst 0, 1) := dq3 bw_cX12_measures_2 7 rfl rfl
theorem dX12_measures_56 : decode cX12_measures 56 = .ok (.istore_n 1, 1) := dq60 bw_cX12_measures_2 8 rfl rfl
theorem dX12_measures_57 : decode cX12_measures 57 = .ok (.iload_n 1, 1) := dq27 bw_cX12_measures_2 9 rfl rfl
theorem dX12_measures_58 : decode cX12_measures 58 = .ok (.aload_n 0, 1) := dq42 bw_cX12_measures_2 10 rfl rfl
theorem dX12_measures_59 : decode cX12_measures 59 = .ok (.getfield 21, 3) := dq180 bw_cX12_measures_2 11 rfl rfl rfl
theorem dX12_measures_62 : decode cX12_measures 62 = .ok (.if_icmp .ge 74, 3) := dq162 bw_cX12_measures_2 14 rfl rfl rfl
theorem dX12_measures_65 : decode cX12_measures 65 = .ok (.aload_n 0, 1) := dq42 bw_cX12_measures_2 17 rfl rfl
theorem dX12_measures_66 : decode cX12_measures 66 = .ok (.getfield 123, 3) := dq180 bw_cX12_measures_2 18 rfl rfl rfl
theorem dX12_measures_69 : decode cX12_measures 69 = .ok (.iload_n 1, 1) := dq27 bw_cX12_measures_2 21 rfl rfl
theorem dX12_measures_70 : decode cX12_measures 70 = .ok (.invokestatic 144, 3) := dq184 bw_cX12_measures_2 22 rfl rfl rfl
theorem bw_cX12_measures_3 : dq_w cX12_measures 72 [144, 154, 0, 57, 42, 42, 180, 0, 74, 27, 46, 42, 180, 0, 80, 27, 46, 42, 27, 42, 180, 0, 74, 27, 46, 182, 0] = true := by decide +kernel
theorem dX12_measures_73 : decode cX12_measures 73 = .ok (.ifCond .ne 57, 3) := dq154 bw_cX12_measures_3 1 rfl rfl rfl
theorem dX12_measures_76 : decode cX12_measures 76 = .ok (.aload_n 0, 1) := dq42 bw_cX12_measures_3 4 rfl rfl
theorem dX12_measures_77 : decode cX12_measures 77 = .ok (.aload_n 0, 1) := dq42 bw_cX12_measures_3 5 rfl rfl
theorem dX12_measures_78 : decode cX12_measures 78 = .ok (.getfield 74, 3) := dq180 bw_cX12_measures_3 6 rfl rfl rfl
theorem dX12_measures_81 : decode cX12_measures 81 = .ok (.iload_n 1, 1) := dq27 bw_cX12_measures_3 9 rfl rfl
theorem dX12_measures_82 : decode cX12_measures 82 = .ok (.iaload, 1) := dq46 bw_cX12_measures_3 10 rfl rfl
theorem dX12_measures_83 : decode cX12_measures 83 = .ok (.aload_n 0, 1) := dq42 bw_cX12_measures_3 11 rfl rfl
theorem dX12_measures_84 : decode cX12_measures 84 = .ok (.getfield 80, 3) := dq180 bw_cX12_measures_3 12 rfl rfl rfl
theorem dX12_measures_87 : decode cX12_measures 87 = .ok (.iload_n 1, 1) := dq27 bw_cX12_measures_3 15 rfl rfl
theorem dX12_measures_88 : decode cX12_measures 88 = .ok (.iaload, 1) := dq46 bw_cX12_measures_3 16 rfl rfl
theorem dX12_measures_89 : decode cX12_measures 89 = .ok (.aload_n 0, 1) := dq42 bw_cX12_measures_3 17 rfl rfl
theorem dX12_measures_90 : decode cX12_measures 90 = .ok (.iload_n 1, 1) := dq27 bw_cX12_measures_3 18 rfl rfl
theorem dX12_measures_91 : decode cX12_measures 91 = .ok (.aload_n 0, 1) := dq42 bw_cX12_measures_3 19 rfl rfl
theorem dX12_measures_92 : decode cX12_measures 92 = .ok (.getfield 74, 3) := dq180 bw_cX12_measures_3 20 rfl rfl rfl
theorem dX12_measures_95 : decode cX12_measures 95 = .ok (.iload_n 1, 1) := dq27 bw_cX12_measures_3 23 rfl rfl
theorem bw_cX12_measures_4 : dq_w cX12_measures 96 [46, 182, 0, 186, 182, 1, 90, 42, 42, 180, 0, 80, 27, 46, 42, 180, 0, 74, 27, 46, 42, 27, 42, 180, 0, 80, 27] = true := by decide +kernel
theorem dX12_measures_96 : decode cX12_measures 96 = .ok (.iaload, 1) := dq46 bw_cX12_measures_4 0 rfl rfl
theorem dX12_measures_97 : decode cX12_measures 97 = .ok (.invokevirtual 186, 3) := dq182 bw_cX12_measures_4 1 rfl rfl rfl
theorem dX12_measures_100 : decode cX12_measures 100 = .ok (.invokevirtual 346, 3) := dq182 bw_cX12_measures_4 4 rfl rfl rfl
theorem dX12_measures_103 : decode cX12_measures 103 = .ok (.aload_n 0, 1) := dq42 bw_cX12_measures_4 7 rfl rfl
theorem dX12_measures_104 : decode cX12_measures 104 = .ok (.aload_n 0, 1) := dq42 bw_cX12_measures_4 8 rfl rfl
theorem dX12_measures_105 : decode cX12_measures 105 = .ok (.getfield 80, 3) := dq180 bw_cX12_measures_4 9 rfl rfl rfl
theorem dX12_measures_108 : decode cX12_measures 108 = .ok (.iload_n 1, 1) := dq27 bw_cX12_measures_4 12 rfl rfl
theorem dX12_measures_109 : decode cX12_measures 109 = .ok (.iaload, 1) := dq46 bw_cX12_measures_4 13 rfl rfl
theorem dX12_measures_110 : decode cX12_measures 110 = .ok (.aload_n 0, 1) := dq42 bw_cX12_measures_4 14 rfl rfl
theorem dX12_measures_111 : decode cX12_measures 111 = .ok (.getfield 74, 3) := dq180 bw_cX12_measures_4 15 rfl rfl rfl
theorem dX12_measures_114 : decode cX12_measures 114 = .ok (.iload_n 1, 1) := dq27 bw_cX12_measures_4 18 rfl rfl
theorem dX12_measures_115 : decode cX12_measures 115 = .ok (.iaload, 1) := dq46 bw_cX12_measures_4 19 rfl rfl
theorem dX12_measures_116 : decode cX12_measures 116 = .ok (.aload_n 0, 1) := dq42 bw_cX12_measures_4 20 rfl rfl
theorem dX12_measures_117 : decode cX12_measures 117 = .ok (.iload_n 1, 1) := dq27 bw_cX12_measures_4 21 rfl rfl
theorem dX12_measures_118 : decode cX12_measures 118 = .ok (.aload_n 0, 1) := dq42 bw_cX12_measures_4 22 rfl rfl
theorem dX12_measures_119 : decode cX12_measures 119 = .ok (.getfield 80, 3) := dq180 bw_cX12_measures_4 23 rfl rfl rfl
theorem bw_cX12_measures_5 : dq_w cX12_measures 120 [0, 80, 27, 46, 182, 0, 186, 182, 1, 90, 132, 1, 1, 167, 255, 180, 3, 60, 27, 42, 180, 0, 14, 162, 0, 70, 3] = true := by decide +kernel
theorem dX12_measures_122 : decode cX12_measures 122 = .ok (.iload_n 1, 1) := dq27 bw_cX12_measures_5 2 rfl rfl
theorem dX12_measures_123 : decode cX12_measures 123 = .ok (.iaload, 1) := dq46 bw_cX12_measures_5 3 rfl rfl
theorem dX12_measures_124 : decode cX12_measures 124 = .ok (.invokevirtual 186, 3) := dq182 bw_cX12_measures_5 4 rfl rfl rfl
theorem dX12_measures_127 : decode cX12_measures 127 = .ok (.invokevirtual 346, 3) := dq182 bw_cX12_measures_5 7 rfl rfl rfl
theorem dX12_measures_130 : decode cX12_measures 130 = .ok (.iinc 1 1, 3) := dq132 bw_cX12_measures_5 10 rfl rfl rfl
theorem dX12_measures_133 : decode cX12_measures 133 = .ok (.goto (-76), 3) := dq167 bw_cX12_measures_5 13 rfl rfl rfl
theorem dX12_measures_136 : decode cX12_measures 136 = .ok (.iconst 0, 1) := dq3 bw_cX12_measures_5 16 rfl rfl
theorem dX12_measures_137 : decode cX12_measures 137 = .ok (.istore_n 1, 1) := dq60 bw_cX12_measures_5 17 rfl rfl
theorem dX12_measures_138 : decode cX12_measures 138 = .ok (.iload_n 1, 1) := dq27 bw_cX12_measures_5 18 rfl rfl
theorem dX12_measures_139 : decode cX12_measures 139 = .ok (.aload_n 0, 1) := dq42 bw_cX12_measures_5 19 rfl rfl
theorem dX12_measures_140 : decode cX12_measures 140 = .ok (.getfield 14, 3) := dq180 bw_cX12_measures_5 20 rfl rfl rfl
theorem dX12_measures_143 : decode cX12_measures 143 = .ok (.if_icmp .ge 70, 3) := dq162 bw_cX12_measures_5 23 rfl rfl rfl
theorem bw_cX12_measures_6 : dq_w cX12_measures 144 [0, 70, 3, 61, 28, 42, 180, 0, 14, 162, 0, 54, 3, 62, 29, 42, 180, 0, 14, 162, 0, 38, 42, 28, 29, 42, 180] = true := by decide +kernel
theorem dX12_measures_146 : decode cX12_measures 146 = .ok (.iconst 0, 1) := dq3 bw_cX12_measures_6 2 rfl rfl
theorem dX12_measures_147 : decode cX12_measures 147 = .ok (.istore_n 2, 1) := dq61 bw_cX12_measures_6 3 rfl rfl
theorem dX12_measures_148 : decode cX12_measures 148 = .ok (.iload_n 2, 1) := dq28 bw_cX12_measures_6 4 rfl rfl
theorem dX12_measures_149 : decode cX12_measures 149 = .ok (.aload_n 0, 1) := dq42 bw_cX12_measures_6 5 rfl rfl
theorem dX12_measures_150 : decode cX12_measures 150 = .ok (.getfield 14, 3) := dq180 bw_cX12_measures_6 6 rfl rfl rfl
theorem dX12_measures_153 : decode cX12_measures 153 = .ok (.if_icmp .ge 54, 3) := dq162 bw_cX12_measures_6 9 rfl rfl rfl
theorem dX12_measures_156 : decode cX12_measures 156 = .ok (.iconst 0, 1) := dq3 bw_cX12_measures_6 12 rfl rfl
theorem dX12_measures_157 : decode cX12_measures 157 = .ok (.istore_n 3, 1) := dq62 bw_cX12_measures_6 13 rfl rfl
theorem dX12_measures_158 : decode cX12_measures 158 = .ok (.iload_n 3, 1) := dq29 bw_cX12_measures_6 14 rfl rfl
theorem dX12_measures_159 : decode cX12_measures 159 = .ok (.aload_n 0, 1) := dq42 bw_cX12_measures_6 15 rfl rfl
theorem dX12_measures_160 : decode cX12_measures 160 = .ok (.getfield 14, 3) := dq180 bw_cX12_measures_6 16 rfl rfl rfl
theorem dX12_measures_163 : decode cX12_measures 163 = .ok (.if_icmp .ge 38, 3) := dq162 bw_cX12_measures_6 19 rfl rfl rfl
theorem dX12_measures_166 : decode cX12_measures 166 = .ok (.aload_n 0, 1) := dq42 bw_cX12_measures_6 22 rfl rfl
theorem dX12_measures_167 : decode cX12_measures 167 = .ok (.iload_n 2, 1) := dq28 bw_cX12_measures_6 23 rfl rfl
theorem bw_cX12_measures_7 : dq_w cX12_measures 168 [29, 42, 180, 1, 87, 16, 10, 28, 104, 27, 96, 46, 42, 180, 1, 87, 16, 10, 27, 104, 29, 96, 46, 96, 182, 1, 90] = true := by decide +kernel
theorem dX12_measures_168 : decode cX12_measures 168 = .ok (.iload_n 3, 1) := dq29 bw_cX12_measures_7 0 rfl rfl
theorem dX12_measures_169 : decode cX12_measures 169 = .ok (.aload_n 0, 1) := dq42 bw_cX12_measures_7 1 rfl rfl
theorem dX12_measures_170 : decode cX12_measures 170 = .ok (.getfield 343, 3) := dq180 bw_cX12_measures_7 2 rfl rfl rfl
theorem dX12_measures_173 : decode cX12_measures 173 = .ok (.bipush 10, 2) := dq16 bw_cX12_measures_7 5 rfl rfl rfl
theorem dX12_measures_175 : decode cX12_measures 175 = .ok (.iload_n 2, 1) := dq28 bw_cX12_measures_7 7 rfl rfl
theorem dX12_measures_176 : decode cX12_measures 176 = .ok (.imul, 1) := dq104 bw_cX12_measures_7 8 rfl rfl
theorem dX12_measures_177 : decode cX12_measures 177 = .ok (.iload_n 1, 1) := dq27 bw_cX12_measures_7 9 rfl rfl
theorem dX12_measures_178 : decode cX12_measures 178 = .ok (.iadd, 1) := dq96 bw_cX12_measures_7 10 rfl rfl
theorem dX12_measures_179 : decode cX12_measures 179 = .ok (.iaload, 1) := dq46 bw_cX12_measures_7 11 rfl rfl
theorem dX12_measures_180 : decode cX12_measures 180 = .ok (.aload_n 0, 1) := dq42 bw_cX12_measures_7 12 rfl rfl
theorem dX12_measures_181 : decode cX12_measures 181 = .ok (.getfield 343, 3) := dq180 bw_cX12_measures_7 13 rfl rfl rfl
theorem dX12_measures_184 : decode cX12_measures 184 = .ok (.bipush 10, 2) := dq16 bw_cX12_measures_7 16 rfl rfl rfl
theorem dX12_measures_186 : decode cX12_measures 186 = .ok (.iload_n 1, 1) := dq27 bw_cX12_measures_7 18 rfl rfl
theorem dX12_measures_187 : decode cX12_measures 187 = .ok (.imul, 1) := dq104 bw_cX12_measures_7 19 rfl rfl
theorem dX12_measures_188 : decode cX12_measures 188 = .ok (.iload_n 3, 1) := dq29 bw_cX12_measures_7 20 rfl rfl
theorem dX12_measures_189 : decode cX12_measures 189 = .ok (.iadd, 1) := dq96 bw_cX12_measures_7 21 rfl rfl
theorem dX12_measures_190 : decode cX12_measures 190 = .ok (.iaload, 1) := dq46 bw_cX12_measures_7 22 rfl rfl
theorem dX12_measures_191 : decode cX12_measures 191 = .ok (.iadd, 1) := dq96 bw_cX12_measures_7 23 rfl rfl
theorem bw_cX12_measures_8 : dq_w cX12_measures 192 [182, 1, 90, 132, 3, 1, 167, 255, 216, 132, 2, 1, 167, 255, 200, 132, 1, 1, 167, 255, 184, 177] = true := by decide +kernel
theorem dX12_measures_192 : decode cX12_measures 192 = .ok (.invokevirtual 346, 3) := dq182 bw_cX12_measures_8 0 rfl rfl rfl
theorem dX12_measures_195 : decode cX12_measures 195 = .ok (.iinc 3 1, 3) := dq132 bw_cX12_measures_8 3 rfl rfl rfl
theorem dX12_measures_198 : decode cX12_measures 198 = .ok (.goto (-40), 3) := dq167 bw_cX12_measures_8 6 rfl rfl rfl
theorem dX12_measures_201 : decode cX12_measures 201 = .ok (.iinc 2 1, 3) := dq132 bw_cX12_measures_8 9 rfl rfl rfl
theorem dX12_measures_204 : decode cX12_measures 204 = .ok (.goto (-56), 3) := dq167 bw_cX12_measures_8 12 rfl rfl rfl
theorem dX12_measures_207 : decode cX12_measures 207 = .ok (.iinc 1 1, 3) := dq132 bw_cX12_measures_8 15 rfl rfl rfl
theorem dX12_measures_210 : decode cX12_measures 210 = .ok (.goto (-72), 3) := dq167 bw_cX12_measures_8 18 rfl rfl rfl
theorem dX12_measures_213 : decode cX12_measures 213 = .ok (.return_, 1) := dq177 bw_cX12_measures_8 21 rfl rfl
theorem bw_cX12_gateBy_0 : dq_w cX12_gateBy 0 [42, 180, 1, 87, 16, 10, 28, 104, 21, 4, 96, 46, 42, 29, 21, 4, 182, 0, 186, 96, 42, 180, 1, 67, 16, 10, 27] = true := by decide +kernel
theorem dX12_gateBy_0 : decode cX12_gateBy 0 = .ok (.aload_n 0, 1) := dq42 bw_cX12_gateBy_0 0 rfl rfl
theorem dX12_gateBy_1 : decode cX12_gateBy 1 = .ok (.getfield 343, 3) := dq180 bw_cX12_gateBy_0 1 rfl rfl rfl
theorem dX12_gateBy_4 : decode cX12_gateBy 4 = .ok (.bipush 10, 2) := dq16 bw_cX12_gateBy_0 4 rfl rfl rfl
theorem dX12_gateBy_6 : decode cX12_gateBy 6 = .ok (.iload_n 2, 1) := dq28 bw_cX12_gateBy_0 6 rfl rfl
theorem dX12_gateBy_7 : decode cX12_gateBy 7 = .ok (.imul, 1) := dq104 bw_cX12_gateBy_0 7 rfl rfl
theorem dX12_gateBy_8 : decode cX12_gateBy 8 = .ok (.iload 4, 2) := dq21 bw_cX12_gateBy_0 8 rfl rfl
theorem dX12_gateBy_10 : decode cX12_gateBy 10 = .ok (.iadd, 1) := dq96 bw_cX12_gateBy_0 10 rfl rfl
theorem dX12_gateBy_11 : decode cX12_gateBy 11 = .ok (.iaload, 1) := dq46 bw_cX12_gateBy_0 11 rfl rfl
theorem dX12_gateBy_12 : decode cX12_gateBy 12 = .ok (.aload_n 0, 1) := dq42 bw_cX12_gateBy_0 12 rfl rfl
theorem dX12_gateBy_13 : decode cX12_gateBy 13 = .ok (.iload_n 3, 1) := dq29 bw_cX12_gateBy_0 13 rfl rfl
theorem dX12_gateBy_14 : decode cX12_gateBy 14 = .ok (.iload 4, 2) := dq21 bw_cX12_gateBy_0 14 rfl rfl
theorem dX12_gateBy_16 : decode cX12_gateBy 16 = .ok (.invokevirtual 186, 3) := dq182 bw_cX12_gateBy_0 16 rfl rfl rfl
theorem dX12_gateBy_19 : decode cX12_gateBy 19 = .ok (.iadd, 1) := dq96 bw_cX12_gateBy_0 19 rfl rfl
theorem dX12_gateBy_20 : decode cX12_gateBy 20 = .ok (.aload_n 0, 1) := dq42 bw_cX12_gateBy_0 20 rfl rfl
theorem dX12_gateBy_21 : decode cX12_gateBy 21 = .ok (.getfield 323, 3) := dq180 bw_cX12_gateBy_0 21 rfl rfl rfl
theorem bw_cX12_gateBy_1 : dq_w cX12_gateBy 24 [16, 10, 27, 4, 29, 120, 2, 130, 126, 104, 42, 29, 21, 4, 182, 0, 201, 96, 46, 96, 54, 5, 19, 1, 70, 21, 5] = true := by decide +kernel
theorem dX12_gateBy_24 : decode cX12_gateBy 24 = .ok (.bipush 10, 2) := dq16 bw_cX12_gateBy_1 0 rfl rfl rfl
theorem dX12_gateBy_26 : decode cX12_gateBy 26 = .ok (.iload_n 1, 1) := dq27 bw_cX12_gateBy_1 2 rfl rfl
theorem dX12_gateBy_27 : decode cX12_gateBy 27 = .ok (.iconst 1, 1) := dq4 bw_cX12_gateBy_1 3 rfl rfl
theorem dX12_gateBy_28 : decode cX12_gateBy 28 = .ok (.iload_n 3, 1) := dq29 bw_cX12_gateBy_1 4 rfl rfl
theorem dX12_gateBy_29 : decode cX12_gateBy 29 = .ok (.ishl, 1) := dq120 bw_cX12_gateBy_1 5 rfl rfl
theorem dX12_gateBy_30 : decode cX12_gateBy 30 = .ok (.iconst (-1), 1) := dq2 bw_cX12_gateBy_1 6 rfl rfl
theorem dX12_gateBy_31 : decode cX12_gateBy 31 = .ok (.ixor, 1) := dq130 bw_cX12_gateBy_1 7 rfl rfl
theorem dX12_gateBy_32 : decode cX12_gateBy 32 = .ok (.iand, 1) := dq126 bw_cX12_gateBy_1 8 rfl rfl
theorem dX12_gateBy_33 : decode cX12_gateBy 33 = .ok (.imul, 1) := dq104 bw_cX12_gateBy_1 9 rfl rfl
theorem dX12_gateBy_34 : decode cX12_gateBy 34 = .ok (.aload_n 0, 1) := dq42 bw_cX12_gateBy_1 10 rfl rfl
theorem dX12_gateBy_35 : decode cX12_gateBy 35 = .ok (.iload_n 3, 1) := dq29 bw_cX12_gateBy_1 11 rfl rfl
theorem dX12_gateBy_36 : decode cX12_gateBy 36 = .ok (.iload 4, 2) := dq21 bw_cX12_gateBy_1 12 rfl rfl
theorem dX12_gateBy_38 : decode cX12_gateBy 38 = .ok (.invokevirtual 201, 3) := dq182 bw_cX12_gateBy_1 14 rfl rfl rfl
theorem dX12_gateBy_41 : decode cX12_gateBy 41 = .ok (.iadd, 1) := dq96 bw_cX12_gateBy_1 17 rfl rfl
theorem dX12_gateBy_42 : decode cX12_gateBy 42 = .ok (.iaload, 1) := dq46 bw_cX12_gateBy_1 18 rfl rfl
theorem dX12_gateBy_43 : decode cX12_gateBy 43 = .ok (.iadd, 1) := dq96 bw_cX12_gateBy_1 19 rfl rfl
theorem dX12_gateBy_44 : decode cX12_gateBy 44 = .ok (.istore 5, 2) := dq54 bw_cX12_gateBy_1 20 rfl rfl
theorem dX12_gateBy_46 : decode cX12_gateBy 46 = .ok (.ldc_w 326, 3) := dq19 bw_cX12_gateBy_1 22 rfl rfl rfl
theorem bw_cX12_gateBy_2 : dq_w cX12_gateBy 48 [70, 21, 5, 184, 0, 33, 172] = true := by decide +kernel
theorem dX12_gateBy_49 : decode cX12_gateBy 49 = .ok (.iload 5, 2) := dq21 bw_cX12_gateBy_2 1 rfl rfl
theorem dX12_gateBy_51 : decode cX12_gateBy 51 = .ok (.invokestatic 33, 3) := dq184 bw_cX12_gateBy_2 3 rfl rfl rfl
theorem dX12_gateBy_54 : decode cX12_gateBy 54 = .ok (.ireturn, 1) := dq172 bw_cX12_gateBy_2 6 rfl rfl
theorem bw_cX12_gateBest_0 : dq_w cX12_gateBest 0 [42, 27, 28, 29, 42, 180, 0, 74, 29, 46, 182, 1, 93, 42, 27, 28, 29, 42, 180, 0, 80, 29, 46, 182, 1, 93, 184] = true := by decide +kernel
theorem dX12_gateBest_0 : decode cX12_gateBest 0 = .ok (.aload_n 0, 1) := dq42 bw_cX12_gateBest_0 0 rfl rfl
theorem dX12_gateBest_1 : decode cX12_gateBest 1 = .ok (.iload_n 1, 1) := dq27 bw_cX12_gateBest_0 1 rfl rfl
theorem dX12_gateBest_2 : decode cX12_gateBest 2 = .ok (.iload_n 2, 1) := dq28 bw_cX12_gateBest_0 2 rfl rfl
theorem dX12_gateBest_3 : decode cX12_gateBest 3 = .ok (.iload_n 3, 1) := dq29 bw_cX12_gateBest_0 3 rfl rfl
theorem dX12_gateBest_4 : decode cX12_gateBest 4 = .ok (.aload_n 0, 1) := dq42 bw_cX12_gateBest_0 4 rfl rfl
theorem dX12_gateBest_5 : decode cX12_gateBest 5 = .ok (.getfield 74, 3) := dq180 bw_cX12_gateBest_0 5 rfl rfl rfl
theorem dX12_gateBest_8 : decode cX12_gateBest 8 = .ok (.iload_n 3, 1) := dq29 bw_cX12_gateBest_0 8 rfl rfl
theorem dX12_gateBest_9 : decode cX12_gateBest 9 = .ok (.iaload, 1) := dq46 bw_cX12_gateBest_0 9 rfl rfl
theorem dX12_gateBest_10 : decode cX12_gateBest 10 = .ok (.invokevirtual 349, 3) := dq182 bw_cX12_gateBest_0 10 rfl rfl rfl
theorem dX12_gateBest_13 : decode cX12_gateBest 13 = .ok (.aload_n 0, 1) := dq42 bw_cX12_gateBest_0 13 rfl rfl
theorem dX12_gateBest_14 : decode cX12_gateBest 14 = .ok (.iload_n 1, 1) := dq27 bw_cX12_gateBest_0 14 rfl rfl
theorem dX12_gateBest_15 : decode cX12_gateBest 15 = .ok (.iload_n 2, 1) := dq28 bw_cX12_gateBest_0 15 rfl rfl
theorem dX12_gateBest_16 : decode cX12_gateBest 16 = .ok (.iload_n 3, 1) := dq29 bw_cX12_gateBest_0 16 rfl rfl
theorem dX12_gateBest_17 : decode cX12_gateBest 17 = .ok (.aload_n 0, 1) := dq42 bw_cX12_gateBest_0 17 rfl rfl
theorem dX12_gateBest_18 : decode cX12_gateBest 18 = .ok (.getfield 80, 3) := dq180 bw_cX12_gateBest_0 18 rfl rfl rfl
theorem dX12_gateBest_21 : decode cX12_gateBest 21 = .ok (.iload_n 3, 1) := dq29 bw_cX12_gateBest_0 21 rfl rfl
theorem dX12_gateBest_22 : decode cX12_gateBest 22 = .ok (.iaload, 1) := dq46 bw_cX12_gateBest_0 22 rfl rfl
theorem dX12_gateBest_23 : decode cX12_gateBest 23 = .ok (.invokevirtual 349, 3) := dq182 bw_cX12_gateBest_0 23 rfl rfl rfl
theorem bw_cX12_gateBest_1 : dq_w cX12_gateBest 24 [1, 93, 184, 0, 33, 172] = true := by decide +kernel
theorem dX12_gateBest_26 : decode cX12_gateBest 26 = .ok (.invokestatic 33, 3) := dq184 bw_cX12_gateBest_1 2 rfl rfl rfl
theorem dX12_gateBest_29 : decode cX12_gateBest 29 = .ok (.ireturn, 1) := dq172 bw_cX12_gateBest_1 5 rfl rfl
theorem bw_cX12_laysOutGates_0 : dq_w cX12_laysOutGates 0 [42, 182, 1, 97, 3, 60, 27, 42, 182, 1, 10, 163, 0, 107, 27, 42, 180, 0, 123, 2, 130, 126, 153, 0, 6, 167, 0] = true := by decide +kernel
theorem dX12_laysOutGates_0 : decode cX12_laysOutGates 0 = .ok (.aload_n 0, 1) := dq42 bw_cX12_laysOutGates_0 0 rfl rfl
theorem dX12_laysOutGates_1 : decode cX12_laysOutGates 1 = .ok (.invokevirtual 353, 3) := dq182 bw_cX12_laysOutGates_0 1 rfl rfl rfl
theorem dX12_laysOutGates_4 : decode cX12_laysOutGates 4 = .ok (.iconst 0, 1) := dq3 bw_cX12_laysOutGates_0 4 rfl rfl
theorem dX12_laysOutGates_5 : decode cX12_laysOutGates 5 = .ok (.istore_n 1, 1) := dq60 bw_cX12_laysOutGates_0 5 rfl rfl
theorem dX12_laysOutGates_6 : decode cX12_laysOutGates 6 = .ok (.iload_n 1, 1) := dq27 bw_cX12_laysOutGates_0 6 rfl rfl
theorem dX12_laysOutGates_7 : decode cX12_laysOutGates 7 = .ok (.aload_n 0, 1) := dq42 bw_cX12_laysOutGates_0 7 rfl rfl
theorem dX12_laysOutGates_8 : decode cX12_laysOutGates 8 = .ok (.invokevirtual 266, 3) := dq182 bw_cX12_laysOutGates_0 8 rfl rfl rfl
theorem dX12_laysOutGates_11 : decode cX12_laysOutGates 11 = .ok (.if_icmp .gt 107, 3) := dq163 bw_cX12_laysOutGates_0 11 rfl rfl rfl
theorem dX12_laysOutGates_14 : decode cX12_laysOutGates 14 = .ok (.iload_n 1, 1) := dq27 bw_cX12_laysOutGates_0 14 rfl rfl
theorem dX12_laysOutGates_15 : decode cX12_laysOutGates 15 = .ok (.aload_n 0, 1) := dq42 bw_cX12_laysOutGates_0 15 rfl rfl
theorem dX12_laysOutGates_16 : decode cX12_laysOutGates 16 = .ok (.getfield 123, 3) := dq180 bw_cX12_laysOutGates_0 16 rfl rfl rfl
theorem dX12_laysOutGates_19 : decode cX12_laysOutGates 19 = .ok (.iconst (-1), 1) := dq2 bw_cX12_laysOutGates_0 19 rfl rfl
theorem dX12_laysOutGates_20 : decode cX12_laysOutGates 20 = .ok (.ixor, 1) := dq130 bw_cX12_laysOutGates_0 20 rfl rfl
theorem dX12_laysOutGates_21 : decode cX12_laysOutGates 21 = .ok (.iand, 1) := dq126 bw_cX12_laysOutGates_0 21 rfl rfl
theorem dX12_laysOutGates_22 : decode cX12_laysOutGates 22 = .ok (.ifCond .eq 6, 3) := dq153 bw_cX12_laysOutGates_0 22 rfl rfl rfl
theorem bw_cX12_laysOutGates_1 : dq_w cX12_laysOutGates 24 [6, 167, 0, 87, 3, 61, 28, 42, 180, 0, 14, 162, 0, 77, 27, 154, 0, 7, 3, 167, 0, 6, 19, 1, 70, 62, 3] = true := by decide +kernel
theorem dX12_laysOutGates_25 : decode cX12_laysOutGates 25 = .ok (.goto 87, 3) := dq167 bw_cX12_laysOutGates_1 1 rfl rfl rfl
theorem dX12_laysOutGates_28 : decode cX12_laysOutGates 28 = .ok (.iconst 0, 1) := dq3 bw_cX12_laysOutGates_1 4 rfl rfl
theorem dX12_laysOutGates_29 : decode cX12_laysOutGates 29 = .ok (.istore_n 2, 1) := dq61 bw_cX12_laysOutGates_1 5 rfl rfl
theorem dX12_laysOutGates_30 : decode cX12_laysOutGates 30 = .ok (.iload_n 2, 1) := dq28 bw_cX12_laysOutGates_1 6 rfl rfl
theorem dX12_laysOutGates_31 : decode cX12_laysOutGates 31 = .ok (.aload_n 0, 1) := dq42 bw_cX12_laysOutGates_1 7 rfl rfl
theorem dX12_laysOutGates_32 : decode cX12_laysOutGates 32 = .ok (.getfield 14, 3) := dq180 bw_cX12_laysOutGates_1 8 rfl rfl rfl
theorem dX12_laysOutGates_35 : decode cX12_laysOutGates 35 = .ok (.if_icmp .ge 77, 3) := dq162 bw_cX12_laysOutGates_1 11 rfl rfl rfl
theorem dX12_laysOutGates_38 : decode cX12_laysOutGates 38 = .ok (.iload_n 1, 1) := dq27 bw_cX12_laysOutGates_1 14 rfl rfl
theorem dX12_laysOutGates_39 : decode cX12_laysOutGates 39 = .ok (.ifCond .ne 7, 3) := dq154 bw_cX12_laysOutGates_1 15 rfl rfl rfl
theorem dX12_laysOutGates_42 : decode cX12_laysOutGates 42 = .ok (.iconst 0, 1) := dq3 bw_cX12_laysOutGates_1 18 rfl rfl
theorem dX12_laysOutGates_43 : decode cX12_laysOutGates 43 = .ok (.goto 6, 3) := dq167 bw_cX12_laysOutGates_1 19 rfl rfl rfl
theorem dX12_laysOutGates_46 : decode cX12_laysOutGates 46 = .ok (.ldc_w 326, 3) := dq19 bw_cX12_laysOutGates_1 22 rfl rfl rfl
theorem bw_cX12_laysOutGates_2 : dq_w cX12_laysOutGates 48 [70, 62, 3, 54, 4, 21, 4, 42, 180, 0, 21, 162, 0, 35, 27, 21, 4, 184, 0, 144, 153, 0, 18, 29, 42, 27, 28] = true := by decide +kernel
theorem dX12_laysOutGates_49 : decode cX12_laysOutGates 49 = .ok (.istore_n 3, 1) := dq62 bw_cX12_laysOutGates_2 1 rfl rfl
theorem dX12_laysOutGates_50 : decode cX12_laysOutGates 50 = .ok (.iconst 0, 1) := dq3 bw_cX12_laysOutGates_2 2 rfl rfl
theorem dX12_laysOutGates_51 : decode cX12_laysOutGates 51 = .ok (.istore 4, 2) := dq54 bw_cX12_laysOutGates_2 3 rfl rfl
theorem dX12_laysOutGates_53 : decode cX12_laysOutGates 53 = .ok (.iload 4, 2) := dq21 bw_cX12_laysOutGates_2 5 rfl rfl
theorem dX12_laysOutGates_55 : decode cX12_laysOutGates 55 = .ok (.aload_n 0, 1) := dq42 bw_cX12_laysOutGates_2 7 rfl rfl
theorem dX12_laysOutGates_56 : decode cX12_laysOutGates 56 = .ok (.getfield 21, 3) := dq180 bw_cX12_laysOutGates_2 8 rfl rfl rfl
theorem dX12_laysOutGates_59 : decode cX12_laysOutGates 59 = .ok (.if_icmp .ge 35, 3) := dq162 bw_cX12_laysOutGates_2 11 rfl rfl rfl
theorem dX12_laysOutGates_62 : decode cX12_laysOutGates 62 = .ok (.iload_n 1, 1) := dq27 bw_cX12_laysOutGates_2 14 rfl rfl
theorem dX12_laysOutGates_63 : decode cX12_laysOutGates 63 = .ok (.iload 4, 2) := dq21 bw_cX12_laysOutGates_2 15 rfl rfl
theorem dX12_laysOutGates_65 : decode cX12_laysOutGates 65 = .ok (.invokestatic 144, 3) := dq184 bw_cX12_laysOutGates_2 17 rfl rfl rfl
theorem dX12_laysOutGates_68 : decode cX12_laysOutGates 68 = .ok (.ifCond .eq 18, 3) := dq153 bw_cX12_laysOutGates_2 20 rfl rfl rfl
theorem dX12_laysOutGates_71 : decode cX12_laysOutGates 71 = .ok (.iload_n 3, 1) := dq29 bw_cX12_laysOutGates_2 23 rfl rfl
theorem bw_cX12_laysOutGates_3 : dq_w cX12_laysOutGates 72 [42, 27, 28, 21, 4, 182, 1, 100, 184, 0, 33, 167, 0, 4, 29, 62, 132, 4, 1, 167, 255, 218, 42, 180, 1, 67, 16] = true := by decide +kernel
theorem dX12_laysOutGates_72 : decode cX12_laysOutGates 72 = .ok (.aload_n 0, 1) := dq42 bw_cX12_laysOutGates_3 0 rfl rfl
theorem dX12_laysOutGates_73 : decode cX12_laysOutGates 73 = .ok (.iload_n 1, 1) := dq27 bw_cX12_laysOutGates_3 1 rfl rfl
theorem dX12_laysOutGates_74 : decode cX12_laysOutGates 74 = .ok (.iload_n 2, 1) := dq28 bw_cX12_laysOutGates_3 2 rfl rfl
theorem dX12_laysOutGates_75 : decode cX12_laysOutGates 75 = .ok (.iload 4, 2) := dq21 bw_cX12_laysOutGates_3 3 rfl rfl
theorem dX12_laysOutGates_77 : decode cX12_laysOutGates 77 = .ok (.invokevirtual 356, 3) := dq182 bw_cX12_laysOutGates_3 5 rfl rfl rfl
theorem dX12_laysOutGates_80 : decode cX12_laysOutGates 80 = .ok (.invokestatic 33, 3) := dq184 bw_cX12_laysOutGates_3 8 rfl rfl rfl
theorem dX12_laysOutGates_83 : decode cX12_laysOutGates 83 = .ok (.goto 4, 3) := dq167 bw_cX12_laysOutGates_3 11 rfl rfl rfl
theorem dX12_laysOutGates_86 : decode cX12_laysOutGates 86 = .ok (.iload_n 3, 1) := dq29 bw_cX12_laysOutGates_3 14 rfl rfl
theorem dX12_laysOutGates_87 : decode cX12_laysOutGates 87 = .ok (.istore_n 3, 1) := dq62 bw_cX12_laysOutGates_3 15 rfl rfl
theorem dX12_laysOutGates_88 : decode cX12_laysOutGates 88 = .ok (.iinc 4 1, 3) := dq132 bw_cX12_laysOutGates_3 16 rfl rfl rfl
theorem dX12_laysOutGates_91 : decode cX12_laysOutGates 91 = .ok (.goto (-38), 3) := dq167 bw_cX12_laysOutGates_3 19 rfl rfl rfl
theorem dX12_laysOutGates_94 : decode cX12_laysOutGates 94 = .ok (.aload_n 0, 1) := dq42 bw_cX12_laysOutGates_3 22 rfl rfl
theorem dX12_laysOutGates_95 : decode cX12_laysOutGates 95 = .ok (.getfield 323, 3) := dq180 bw_cX12_laysOutGates_3 23 rfl rfl rfl
theorem bw_cX12_laysOutGates_4 : dq_w cX12_laysOutGates 96 [1, 67, 16, 10, 27, 104, 28, 96, 29, 79, 132, 2, 1, 167, 255, 177, 132, 1, 1, 167, 255, 147, 177] = true := by decide +kernel
theorem dX12_laysOutGates_98 : decode cX12_laysOutGates 98 = .ok (.bipush 10, 2) := dq16 bw_cX12_laysOutGates_4 2 rfl rfl rfl
theorem dX12_laysOutGates_100 : decode cX12_laysOutGates 100 = .ok (.iload_n 1, 1) := dq27 bw_cX12_laysOutGates_4 4 rfl rfl
theorem dX12_laysOutGates_101 : decode cX12_laysOutGates 101 = .ok (.imul, 1) := dq104 bw_cX12_laysOutGates_4 5 rfl rfl
theorem dX12_laysOutGates_102 : decode cX12_laysOutGates 102 = .ok (.iload_n 2, 1) := dq28 bw_cX12_laysOutGates_4 6 rfl rfl
theorem dX12_laysOutGates_103 : decode cX12_laysOutGates 103 = .ok (.iadd, 1) := dq96 bw_cX12_laysOutGates_4 7 rfl rfl
theorem dX12_laysOutGates_104 : decode cX12_laysOutGates 104 = .ok (.iload_n 3, 1) := dq29 bw_cX12_laysOutGates_4 8 rfl rfl
theorem dX12_laysOutGates_105 : decode cX12_laysOutGates 105 = .ok (.iastore, 1) := dq79 bw_cX12_laysOutGates_4 9 rfl rfl
theorem dX12_laysOutGates_106 : decode cX12_laysOutGates 106 = .ok (.iinc 2 1, 3) := dq132 bw_cX12_laysOutGates_4 10 rfl rfl rfl
theorem dX12_laysOutGates_109 : decode cX12_laysOutGates 109 = .ok (.goto (-79), 3) := dq167 bw_cX12_laysOutGates_4 13 rfl rfl rfl
theorem dX12_laysOutGates_112 : decode cX12_laysOutGates 112 = .ok (.iinc 1 1, 3) := dq132 bw_cX12_laysOutGates_4 16 rfl rfl rfl
theorem dX12_laysOutGates_115 : decode cX12_laysOutGates 115 = .ok (.goto (-109), 3) := dq167 bw_cX12_laysOutGates_4 19 rfl rfl rfl
theorem dX12_laysOutGates_118 : decode cX12_laysOutGates 118 = .ok (.return_, 1) := dq177 bw_cX12_laysOutGates_4 22 rfl rfl
theorem bw_cX12_isOnWay_0 : dq_w cX12_isOnWay 0 [3, 54, 4, 3, 54, 5, 21, 5, 42, 180, 0, 14, 162, 0, 54, 21, 4, 154, 0, 36, 42, 180, 1, 106, 21, 5, 46] = true := by decide +kernel
theorem dX12_isOnWay_0 : decode cX12_isOnWay 0 = .ok (.iconst 0, 1) := dq3 bw_cX12_isOnWay_0 0 rfl rfl
theorem dX12_isOnWay_1 : decode cX12_isOnWay 1 = .ok (.istore 4, 2) := dq54 bw_cX12_isOnWay_0 1 rfl rfl
theorem dX12_isOnWay_3 : decode cX12_isOnWay 3 = .ok (.iconst 0, 1) := dq3 bw_cX12_isOnWay_0 3 rfl rfl
theorem dX12_isOnWay_4 : decode cX12_isOnWay 4 = .ok (.istore 5, 2) := dq54 bw_cX12_isOnWay_0 4 rfl rfl
theorem dX12_isOnWay_6 : decode cX12_isOnWay 6 = .ok (.iload 5, 2) := dq21 bw_cX12_isOnWay_0 6 rfl rfl
theorem dX12_isOnWay_8 : decode cX12_isOnWay 8 = .ok (.aload_n 0, 1) := dq42 bw_cX12_isOnWay_0 8 rfl rfl
theorem dX12_isOnWay_9 : decode cX12_isOnWay 9 = .ok (.getfield 14, 3) := dq180 bw_cX12_isOnWay_0 9 rfl rfl rfl
theorem dX12_isOnWay_12 : decode cX12_isOnWay 12 = .ok (.if_icmp .ge 54, 3) := dq162 bw_cX12_isOnWay_0 12 rfl rfl rfl
theorem dX12_isOnWay_15 : decode cX12_isOnWay 15 = .ok (.iload 4, 2) := dq21 bw_cX12_isOnWay_0 15 rfl rfl
theorem dX12_isOnWay_17 : decode cX12_isOnWay 17 = .ok (.ifCond .ne 36, 3) := dq154 bw_cX12_isOnWay_0 17 rfl rfl rfl
theorem dX12_isOnWay_20 : decode cX12_isOnWay 20 = .ok (.aload_n 0, 1) := dq42 bw_cX12_isOnWay_0 20 rfl rfl
theorem dX12_isOnWay_21 : decode cX12_isOnWay 21 = .ok (.getfield 362, 3) := dq180 bw_cX12_isOnWay_0 21 rfl rfl rfl
theorem bw_cX12_isOnWay_1 : dq_w cX12_isOnWay 24 [21, 5, 46, 19, 1, 70, 162, 0, 27, 42, 180, 1, 106, 21, 5, 46, 42, 27, 21, 5, 28, 182, 1, 100, 96, 29, 160] = true := by decide +kernel
theorem dX12_isOnWay_24 : decode cX12_isOnWay 24 = .ok (.iload 5, 2) := dq21 bw_cX12_isOnWay_1 0 rfl rfl
theorem dX12_isOnWay_26 : decode cX12_isOnWay 26 = .ok (.iaload, 1) := dq46 bw_cX12_isOnWay_1 2 rfl rfl
theorem dX12_isOnWay_27 : decode cX12_isOnWay 27 = .ok (.ldc_w 326, 3) := dq19 bw_cX12_isOnWay_1 3 rfl rfl rfl
theorem dX12_isOnWay_30 : decode cX12_isOnWay 30 = .ok (.if_icmp .ge 27, 3) := dq162 bw_cX12_isOnWay_1 6 rfl rfl rfl
theorem dX12_isOnWay_33 : decode cX12_isOnWay 33 = .ok (.aload_n 0, 1) := dq42 bw_cX12_isOnWay_1 9 rfl rfl
theorem dX12_isOnWay_34 : decode cX12_isOnWay 34 = .ok (.getfield 362, 3) := dq180 bw_cX12_isOnWay_1 10 rfl rfl rfl
theorem dX12_isOnWay_37 : decode cX12_isOnWay 37 = .ok (.iload 5, 2) := dq21 bw_cX12_isOnWay_1 13 rfl rfl
theorem dX12_isOnWay_39 : decode cX12_isOnWay 39 = .ok (.iaload, 1) := dq46 bw_cX12_isOnWay_1 15 rfl rfl
theorem dX12_isOnWay_40 : decode cX12_isOnWay 40 = .ok (.aload_n 0, 1) := dq42 bw_cX12_isOnWay_1 16 rfl rfl
theorem dX12_isOnWay_41 : decode cX12_isOnWay 41 = .ok (.iload_n 1, 1) := dq27 bw_cX12_isOnWay_1 17 rfl rfl
theorem dX12_isOnWay_42 : decode cX12_isOnWay 42 = .ok (.iload 5, 2) := dq21 bw_cX12_isOnWay_1 18 rfl rfl
theorem dX12_isOnWay_44 : decode cX12_isOnWay 44 = .ok (.iload_n 2, 1) := dq28 bw_cX12_isOnWay_1 20 rfl rfl
theorem dX12_isOnWay_45 : decode cX12_isOnWay 45 = .ok (.invokevirtual 356, 3) := dq182 bw_cX12_isOnWay_1 21 rfl rfl rfl
theorem bw_cX12_isOnWay_2 : dq_w cX12_isOnWay 48 [96, 29, 160, 0, 7, 4, 167, 0, 4, 3, 54, 4, 132, 5, 1, 167, 255, 199, 21, 4, 172] = true := by decide +kernel
theorem dX12_isOnWay_48 : decode cX12_isOnWay 48 = .ok (.iadd, 1) := dq96 bw_cX12_isOnWay_2 0 rfl rfl
theorem dX12_isOnWay_49 : decode cX12_isOnWay 49 = .ok (.iload_n 3, 1) := dq29 bw_cX12_isOnWay_2 1 rfl rfl
theorem dX12_isOnWay_50 : decode cX12_isOnWay 50 = .ok (.if_icmp .ne 7, 3) := dq160 bw_cX12_isOnWay_2 2 rfl rfl rfl
theorem dX12_isOnWay_53 : decode cX12_isOnWay 53 = .ok (.iconst 1, 1) := dq4 bw_cX12_isOnWay_2 5 rfl rfl
theorem dX12_isOnWay_54 : decode cX12_isOnWay 54 = .ok (.goto 4, 3) := dq167 bw_cX12_isOnWay_2 6 rfl rfl rfl
theorem dX12_isOnWay_57 : decode cX12_isOnWay 57 = .ok (.iconst 0, 1) := dq3 bw_cX12_isOnWay_2 9 rfl rfl
theorem dX12_isOnWay_58 : decode cX12_isOnWay 58 = .ok (.istore 4, 2) := dq54 bw_cX12_isOnWay_2 10 rfl rfl
theorem dX12_isOnWay_60 : decode cX12_isOnWay 60 = .ok (.iinc 5 1, 3) := dq132 bw_cX12_isOnWay_2 12 rfl rfl rfl
theorem dX12_isOnWay_63 : decode cX12_isOnWay 63 = .ok (.goto (-57), 3) := dq167 bw_cX12_isOnWay_2 15 rfl rfl rfl
theorem dX12_isOnWay_66 : decode cX12_isOnWay 66 = .ok (.iload 4, 2) := dq21 bw_cX12_isOnWay_2 18 rfl rfl
theorem dX12_isOnWay_68 : decode cX12_isOnWay 68 = .ok (.ireturn, 1) := dq172 bw_cX12_isOnWay_2 20 rfl rfl
theorem bw_cX12_comesTo_0 : dq_w cX12_comesTo 0 [42, 180, 1, 116, 27, 42, 180, 1, 116, 27, 46, 19, 1, 70, 28, 184, 0, 33, 184, 0, 33, 79, 177] = true := by decide +kernel
theorem dX12_comesTo_0 : decode cX12_comesTo 0 = .ok (.aload_n 0, 1) := dq42 bw_cX12_comesTo_0 0 rfl rfl
theorem dX12_comesTo_1 : decode cX12_comesTo 1 = .ok (.getfield 372, 3) := dq180 bw_cX12_comesTo_0 1 rfl rfl rfl
theorem dX12_comesTo_4 : decode cX12_comesTo 4 = .ok (.iload_n 1, 1) := dq27 bw_cX12_comesTo_0 4 rfl rfl
theorem dX12_comesTo_5 : decode cX12_comesTo 5 = .ok (.aload_n 0, 1) := dq42 bw_cX12_comesTo_0 5 rfl rfl
theorem dX12_comesTo_6 : decode cX12_comesTo 6 = .ok (.getfield 372, 3) := dq180 bw_cX12_comesTo_0 6 rfl rfl rfl
theorem dX12_comesTo_9 : decode cX12_comesTo 9 = .ok (.iload_n 1, 1) := dq27 bw_cX12_comesTo_0 9 rfl rfl
theorem dX12_comesTo_10 : decode cX12_comesTo 10 = .ok (.iaload, 1) := dq46 bw_cX12_comesTo_0 10 rfl rfl
theorem dX12_comesTo_11 : decode cX12_comesTo 11 = .ok (.ldc_w 326, 3) := dq19 bw_cX12_comesTo_0 11 rfl rfl rfl
theorem dX12_comesTo_14 : decode cX12_comesTo 14 = .ok (.iload_n 2, 1) := dq28 bw_cX12_comesTo_0 14 rfl rfl
theorem dX12_comesTo_15 : decode cX12_comesTo 15 = .ok (.invokestatic 33, 3) := dq184 bw_cX12_comesTo_0 15 rfl rfl rfl
theorem dX12_comesTo_18 : decode cX12_comesTo 18 = .ok (.invokestatic 33, 3) := dq184 bw_cX12_comesTo_0 18 rfl rfl rfl
theorem dX12_comesTo_21 : decode cX12_comesTo 21 = .ok (.iastore, 1) := dq79 bw_cX12_comesTo_0 21 rfl rfl
theorem dX12_comesTo_22 : decode cX12_comesTo 22 = .ok (.return_, 1) := dq177 bw_cX12_comesTo_0 22 rfl rfl
theorem bw_cX12_goesThrough_0 : dq_w cX12_goesThrough 0 [3, 61, 28, 42, 180, 0, 14, 162, 0, 18, 42, 180, 1, 116, 28, 19, 1, 70, 79, 132, 2, 1, 167, 255, 236, 3, 61] = true := by decide +kernel
theorem dX12_goesThrough_0 : decode cX12_goesThrough 0 = .ok (.iconst 0, 1) := dq3 bw_cX12_goesThrough_0 0 rfl rfl
theorem dX12_goesThrough_1 : decode cX12_goesThrough 1 = .ok (.istore_n 2, 1) := dq61 bw_cX12_goesThrough_0 1 rfl rfl
theorem dX12_goesThrough_2 : decode cX12_goesThrough 2 = .ok (.iload_n 2, 1) := dq28 bw_cX12_goesThrough_0 2 rfl rfl
theorem dX12_goesThrough_3 : decode cX12_goesThrough 3 = .ok (.aload_n 0, 1) := dq42 bw_cX12_goesThrough_0 3 rfl rfl
theorem dX12_goesThrough_4 : decode cX12_goesThrough 4 = .ok (.getfield 14, 3) := dq180 bw_cX12_goesThrough_0 4 rfl rfl rfl
theorem dX12_goesThrough_7 : decode cX12_goesThrough 7 = .ok (.if_icmp .ge 18, 3) := dq162 bw_cX12_goesThrough_0 7 rfl rfl rfl
theorem dX12_goesThrough_10 : decode cX12_goesThrough 10 = .ok (.aload_n 0, 1) := dq42 bw_cX12_goesThrough_0 10 rfl rfl
theorem dX12_goesThrough_11 : decode cX12_goesThrough 11 = .ok (.getfield 372, 3) := dq180 bw_cX12_goesThrough_0 11 rfl rfl rfl
theorem dX12_goesThrough_14 : decode cX12_goesThrough 14 = .ok (.iload_n 2, 1) := dq28 bw_cX12_goesThrough_0 14 rfl rfl
theorem dX12_goesThrough_15 : decode cX12_goesThrough 15 = .ok (.ldc_w 326, 3) := dq19 bw_cX12_goesThrough_0 15 rfl rfl rfl
theorem dX12_goesThrough_18 : decode cX12_goesThrough 18 = .ok (.iastore, 1) := dq79 bw_cX12_goesThrough_0 18 rfl rfl
theorem dX12_goesThrough_19 : decode cX12_goesThrough 19 = .ok (.iinc 2 1, 3) := dq132 bw_cX12_goesThrough_0 19 rfl rfl rfl
theorem dX12_goesThrough_22 : decode cX12_goesThrough 22 = .ok (.goto (-20), 3) := dq167 bw_cX12_goesThrough_0 22 rfl rfl rfl
theorem bw_cX12_goesThrough_1 : dq_w cX12_goesThrough 24 [236, 3, 61, 28, 42, 180, 0, 14, 162, 0, 111, 42, 180, 1, 106, 28, 46, 19, 1, 70, 162, 0, 93, 42, 42, 180, 0] = true := by decide +kernel
theorem dX12_goesThrough_25 : decode cX12_goesThrough 25 = .ok (.iconst 0, 1) := dq3 bw_cX12_goesThrough_1 1 rfl rfl
theorem dX12_goesThrough_26 : decode cX12_goesThrough 26 = .ok (.istore_n 2, 1) := dq61 bw_cX12_goesThrough_1 2 rfl rfl
theorem dX12_goesThrough_27 : decode cX12_goesThrough 27 = .ok (.iload_n 2, 1) := dq28 bw_cX12_goesThrough_1 3 rfl rfl
theorem dX12_goesThrough_28 : decode cX12_goesThrough 28 = .ok (.aload_n 0, 1) := dq42 bw_cX12_goesThrough_1 4 rfl rfl
theorem dX12_goesThrough_29 : decode cX12_goesThrough 29 = .ok (.getfield 14, 3) := dq180 bw_cX12_goesThrough_1 5 rfl rfl rfl
theorem dX12_goesThrough_32 : decode cX12_goesThrough 32 = .ok (.if_icmp .ge 111, 3) := dq162 bw_cX12_goesThrough_1 8 rfl rfl rfl
theorem dX12_goesThrough_35 : decode cX12_goesThrough 35 = .ok (.aload_n 0, 1) := dq42 bw_cX12_goesThrough_1 11 rfl rfl
theorem dX12_goesThrough_36 : decode cX12_goesThrough 36 = .ok (.getfield 362, 3) := dq180 bw_cX12_goesThrough_1 12 rfl rfl rfl
theorem dX12_goesThrough_39 : decode cX12_goesThrough 39 = .ok (.iload_n 2, 1) := dq28 bw_cX12_goesThrough_1 15 rfl rfl
theorem dX12_goesThrough_40 : decode cX12_goesThrough 40 = .ok (.iaload, 1) := dq46 bw_cX12_goesThrough_1 16 rfl rfl
theorem dX12_goesThrough_41 : decode cX12_goesThrough 41 = .ok (.ldc_w 326, 3) := dq19 bw_cX12_goesThrough_1 17 rfl rfl rfl
theorem dX12_goesThrough_44 : decode cX12_goesThrough 44 = .ok (.if_icmp .ge 93, 3) := dq162 bw_cX12_goesThrough_1 20 rfl rfl rfl
theorem dX12_goesThrough_47 : decode cX12_goesThrough 47 = .ok (.aload_n 0, 1) := dq42 bw_cX12_goesThrough_1 23 rfl rfl
theorem bw_cX12_goesThrough_2 : dq_w cX12_goesThrough 48 [42, 180, 0, 80, 27, 46, 42, 180, 1, 106, 28, 46, 42, 180, 1, 87, 16, 10, 28, 104, 42, 180, 0, 74, 27, 46, 96] = true := by decide +kernel
theorem dX12_goesThrough_48 : decode cX12_goesThrough 48 = .ok (.aload_n 0, 1) := dq42 bw_cX12_goesThrough_2 0 rfl rfl
theorem dX12_goesThrough_49 : decode cX12_goesThrough 49 = .ok (.getfield 80, 3) := dq180 bw_cX12_goesThrough_2 1 rfl rfl rfl
theorem dX12_goesThrough_52 : decode cX12_goesThrough 52 = .ok (.iload_n 1, 1) := dq27 bw_cX12_goesThrough_2 4 rfl rfl
theorem dX12_goesThrough_53 : decode cX12_goesThrough 53 = .ok (.iaload, 1) := dq46 bw_cX12_goesThrough_2 5 rfl rfl
theorem dX12_goesThrough_54 : decode cX12_goesThrough 54 = .ok (.aload_n 0, 1) := dq42 bw_cX12_goesThrough_2 6 rfl rfl
theorem dX12_goesThrough_55 : decode cX12_goesThrough 55 = .ok (.getfield 362, 3) := dq180 bw_cX12_goesThrough_2 7 rfl rfl rfl
theorem dX12_goesThrough_58 : decode cX12_goesThrough 58 = .ok (.iload_n 2, 1) := dq28 bw_cX12_goesThrough_2 10 rfl rfl
theorem dX12_goesThrough_59 : decode cX12_goesThrough 59 = .ok (.iaload, 1) := dq46 bw_cX12_goesThrough_2 11 rfl rfl
theorem dX12_goesThrough_60 : decode cX12_goesThrough 60 = .ok (.aload_n 0, 1) := dq42 bw_cX12_goesThrough_2 12 rfl rfl
theorem dX12_goesThrough_61 : decode cX12_goesThrough 61 = .ok (.getfield 343, 3) := dq180 bw_cX12_goesThrough_2 13 rfl rfl rfl
theorem dX12_goesThrough_64 : decode cX12_goesThrough 64 = .ok (.bipush 10, 2) := dq16 bw_cX12_goesThrough_2 16 rfl rfl rfl
theorem dX12_goesThrough_66 : decode cX12_goesThrough 66 = .ok (.iload_n 2, 1) := dq28 bw_cX12_goesThrough_2 18 rfl rfl
theorem dX12_goesThrough_67 : decode cX12_goesThrough 67 = .ok (.imul, 1) := dq104 bw_cX12_goesThrough_2 19 rfl rfl
theorem dX12_goesThrough_68 : decode cX12_goesThrough 68 = .ok (.aload_n 0, 1) := dq42 bw_cX12_goesThrough_2 20 rfl rfl
theorem dX12_goesThrough_69 : decode cX12_goesThrough 69 = .ok (.getfield 74, 3) := dq180 bw_cX12_goesThrough_2 21 rfl rfl rfl
theorem bw_cX12_goesThrough_3 : dq_w cX12_goesThrough 72 [27, 46, 96, 46, 96, 42, 27, 42, 180, 0, 74, 27, 46, 182, 0, 186, 96, 182, 1, 119, 42, 42, 180, 0, 74, 27, 46] = true := by decide +kernel
theorem dX12_goesThrough_72 : decode cX12_goesThrough 72 = .ok (.iload_n 1, 1) := dq27 bw_cX12_goesThrough_3 0 rfl rfl
theorem dX12_goesThrough_73 : decode cX12_goesThrough 73 = .ok (.iaload, 1) := dq46 bw_cX12_goesThrough_3 1 rfl rfl
theorem dX12_goesThrough_74 : decode cX12_goesThrough 74 = .ok (.iadd, 1) := dq96 bw_cX12_goesThrough_3 2 rfl rfl
theorem dX12_goesThrough_75 : decode cX12_goesThrough 75 = .ok (.iaload, 1) := dq46 bw_cX12_goesThrough_3 3 rfl rfl
theorem dX12_goesThrough_76 : decode cX12_goesThrough 76 = .ok (.iadd, 1) := dq96 bw_cX12_goesThrough_3 4 rfl rfl
theorem dX12_goesThrough_77 : decode cX12_goesThrough 77 = .ok (.aload_n 0, 1) := dq42 bw_cX12_goesThrough_3 5 rfl rfl
theorem dX12_goesThrough_78 : decode cX12_goesThrough 78 = .ok (.iload_n 1, 1) := dq27 bw_cX12_goesThrough_3 6 rfl rfl
theorem dX12_goesThrough_79 : decode cX12_goesThrough 79 = .ok (.aload_n 0, 1) := dq42 bw_cX12_goesThrough_3 7 rfl rfl
theorem dX12_goesThrough_80 : decode cX12_goesThrough 80 = .ok (.getfield 74, 3) := dq180 bw_cX12_goesThrough_3 8 rfl rfl rfl
theorem dX12_goesThrough_83 : decode cX12_goesThrough 83 = .ok (.iload_n 1, 1) := dq27 bw_cX12_goesThrough_3 11 rfl rfl
theorem dX12_goesThrough_84 : decode cX12_goesThrough 84 = .ok (.iaload, 1) := dq46 bw_cX12_goesThrough_3 12 rfl rfl
theorem dX12_goesThrough_85 : decode cX12_goesThrough 85 = .ok (.invokevirtual 186, 3) := dq182 bw_cX12_goesThrough_3 13 rfl rfl rfl
theorem dX12_goesThrough_88 : decode cX12_goesThrough 88 = .ok (.iadd, 1) := dq96 bw_cX12_goesThrough_3 16 rfl rfl
theorem dX12_goesThrough_89 : decode cX12_goesThrough 89 = .ok (.invokevirtual 375, 3) := dq182 bw_cX12_goesThrough_3 17 rfl rfl rfl
theorem dX12_goesThrough_92 : decode cX12_goesThrough 92 = .ok (.aload_n 0, 1) := dq42 bw_cX12_goesThrough_3 20 rfl rfl
theorem dX12_goesThrough_93 : decode cX12_goesThrough 93 = .ok (.aload_n 0, 1) := dq42 bw_cX12_goesThrough_3 21 rfl rfl
theorem dX12_goesThrough_94 : decode cX12_goesThrough 94 = .ok (.getfield 74, 3) := dq180 bw_cX12_goesThrough_3 22 rfl rfl rfl
theorem bw_cX12_goesThrough_4 : dq_w cX12_goesThrough 96 [74, 27, 46, 42, 180, 1, 106, 28, 46, 42, 180, 1, 87, 16, 10, 28, 104, 42, 180, 0, 80, 27, 46, 96, 46, 96, 42] = true := by decide +kernel
theorem dX12_goesThrough_97 : decode cX12_goesThrough 97 = .ok (.iload_n 1, 1) := dq27 bw_cX12_goesThrough_4 1 rfl rfl
theorem dX12_goesThrough_98 : decode cX12_goesThrough 98 = .ok (.iaload, 1) := dq46 bw_cX12_goesThrough_4 2 rfl rfl
theorem dX12_goesThrough_99 : decode cX12_goesThrough 99 = .ok (.aload_n 0, 1) := dq42 bw_cX12_goesThrough_4 3 rfl rfl
theorem dX12_goesThrough_100 : decode cX12_goesThrough 100 = .ok (.getfield 362, 3) := dq180 bw_cX12_goesThrough_4 4 rfl rfl rfl
theorem dX12_goesThrough_103 : decode cX12_goesThrough 103 = .ok (.iload_n 2, 1) := dq28 bw_cX12_goesThrough_4 7 rfl rfl
theorem dX12_goesThrough_104 : decode cX12_goesThrough 104 = .ok (.iaload, 1) := dq46 bw_cX12_goesThrough_4 8 rfl rfl
theorem dX12_goesThrough_105 : decode cX12_goesThrough 105 = .ok (.aload_n 0, 1) := dq42 bw_cX12_goesThrough_4 9 rfl rfl
theorem dX12_goesThrough_106 : decode cX12_goesThrough 106 = .ok (.getfield 343, 3) := dq180 bw_cX12_goesThrough_4 10 rfl rfl rfl
theorem dX12_goesThrough_109 : decode cX12_goesThrough 109 = .ok (.bipush 10, 2) := dq16 bw_cX12_goesThrough_4 13 rfl rfl rfl
theorem dX12_goesThrough_111 : decode cX12_goesThrough 111 = .ok (.iload_n 2, 1) := dq28 bw_cX12_goesThrough_4 15 rfl rfl
theorem dX12_goesThrough_112 : decode cX12_goesThrough 112 = .ok (.imul, 1) := dq104 bw_cX12_goesThrough_4 16 rfl rfl
theorem dX12_goesThrough_113 : decode cX12_goesThrough 113 = .ok (.aload_n 0, 1) := dq42 bw_cX12_goesThrough_4 17 rfl rfl
theorem dX12_goesThrough_114 : decode cX12_goesThrough 114 = .ok (.getfield 80, 3) := dq180 bw_cX12_goesThrough_4 18 rfl rfl rfl
theorem dX12_goesThrough_117 : decode cX12_goesThrough 117 = .ok (.iload_n 1, 1) := dq27 bw_cX12_goesThrough_4 21 rfl rfl
theorem dX12_goesThrough_118 : decode cX12_goesThrough 118 = .ok (.iaload, 1) := dq46 bw_cX12_goesThrough_4 22 rfl rfl
theorem dX12_goesThrough_119 : decode cX12_goesThrough 119 = .ok (.iadd, 1) := dq96 bw_cX12_goesThrough_4 23 rfl rfl
theorem bw_cX12_goesThrough_5 : dq_w cX12_goesThrough 120 [46, 96, 42, 27, 42, 180, 0, 80, 27, 46, 182, 0, 186, 96, 182, 1, 119, 132, 2, 1, 167, 255, 143, 3, 61, 28, 42] = true := by decide +kernel
theorem dX12_goesThrough_120 : decode cX12_goesThrough 120 = .ok (.iaload, 1) := dq46 bw_cX12_goesThrough_5 0 rfl rfl
theorem dX12_goesThrough_121 : decode cX12_goesThrough 121 = .ok (.iadd, 1) := dq96 bw_cX12_goesThrough_5 1 rfl rfl
theorem dX12_goesThrough_122 : decode cX12_goesThrough 122 = .ok (.aload_n 0, 1) := dq42 bw_cX12_goesThrough_5 2 rfl rfl
theorem dX12_goesThrough_123 : decode cX12_goesThrough 123 = .ok (.iload_n 1, 1) := dq27 bw_cX12_goesThrough_5 3 rfl rfl
theorem dX12_goesThrough_124 : decode cX12_goesThrough 124 = .ok (.aload_n 0, 1) := dq42 bw_cX12_goesThrough_5 4 rfl rfl
theorem dX12_goesThrough_125 : decode cX12_goesThrough 125 = .ok (.getfield 80, 3) := dq180 bw_cX12_goesThrough_5 5 rfl rfl rfl
theorem dX12_goesThrough_128 : decode cX12_goesThrough 128 = .ok (.iload_n 1, 1) := dq27 bw_cX12_goesThrough_5 8 rfl rfl
theorem dX12_goesThrough_129 : decode cX12_goesThrough 129 = .ok (.iaload, 1) := dq46 bw_cX12_goesThrough_5 9 rfl rfl
theorem dX12_goesThrough_130 : decode cX12_goesThrough 130 = .ok (.invokevirtual 186, 3) := dq182 bw_cX12_goesThrough_5 10 rfl rfl rfl
theorem dX12_goesThrough_133 : decode cX12_goesThrough 133 = .ok (.iadd, 1) := dq96 bw_cX12_goesThrough_5 13 rfl rfl
theorem dX12_goesThrough_134 : decode cX12_goesThrough 134 = .ok (.invokevirtual 375, 3) := dq182 bw_cX12_goesThrough_5 14 rfl rfl rfl
theorem dX12_goesThrough_137 : decode cX12_goesThrough 137 = .ok (.iinc 2 1, 3) := dq132 bw_cX12_goesThrough_5 17 rfl rfl rfl
theorem dX12_goesThrough_140 : decode cX12_goesThrough 140 = .ok (.goto (-113), 3) := dq167 bw_cX12_goesThrough_5 20 rfl rfl rfl
theorem dX12_goesThrough_143 : decode cX12_goesThrough 143 = .ok (.iconst 0, 1) := dq3 bw_cX12_goesThrough_5 23 rfl rfl
theorem bw_cX12_goesThrough_6 : dq_w cX12_goesThrough 144 [61, 28, 42, 180, 0, 14, 162, 0, 21, 42, 180, 1, 106, 28, 42, 180, 1, 116, 28, 46, 79, 132, 2, 1, 167, 255, 233] = true := by decide +kernel
theorem dX12_goesThrough_144 : decode cX12_goesThrough 144 = .ok (.istore_n 2, 1) := dq61 bw_cX12_goesThrough_6 0 rfl rfl
theorem dX12_goesThrough_145 : decode cX12_goesThrough 145 = .ok (.iload_n 2, 1) := dq28 bw_cX12_goesThrough_6 1 rfl rfl
theorem dX12_goesThrough_146 : decode cX12_goesThrough 146 = .ok (.aload_n 0, 1) := dq42 bw_cX12_goesThrough_6 2 rfl rfl
theorem dX12_goesThrough_147 : decode cX12_goesThrough 147 = .ok (.getfield 14, 3) := dq180 bw_cX12_goesThrough_6 3 rfl rfl rfl
theorem dX12_goesThrough_150 : decode cX12_goesThrough 150 = .ok (.if_icmp .ge 21, 3) := dq162 bw_cX12_goesThrough_6 6 rfl rfl rfl
theorem dX12_goesThrough_153 : decode cX12_goesThrough 153 = .ok (.aload_n 0, 1) := dq42 bw_cX12_goesThrough_6 9 rfl rfl
theorem dX12_goesThrough_154 : decode cX12_goesThrough 154 = .ok (.getfield 362, 3) := dq180 bw_cX12_goesThrough_6 10 rfl rfl rfl
theorem dX12_goesThrough_157 : decode cX12_goesThrough 157 = .ok (.iload_n 2, 1) := dq28 bw_cX12_goesThrough_6 13 rfl rfl
theorem dX12_goesThrough_158 : decode cX12_goesThrough 158 = .ok (.aload_n 0, 1) := dq42 bw_cX12_goesThrough_6 14 rfl rfl
theorem dX12_goesThrough_159 : decode cX12_goesThrough 159 = .ok (.getfield 372, 3) := dq180 bw_cX12_goesThrough_6 15 rfl rfl rfl
theorem dX12_goesThrough_162 : decode cX12_goesThrough 162 = .ok (.iload_n 2, 1) := dq28 bw_cX12_goesThrough_6 18 rfl rfl
theorem dX12_goesThrough_163 : decode cX12_goesThrough 163 = .ok (.iaload, 1) := dq46 bw_cX12_goesThrough_6 19 rfl rfl
theorem dX12_goesThrough_164 : decode cX12_goesThrough 164 = .ok (.iastore, 1) := dq79 bw_cX12_goesThrough_6 20 rfl rfl
theorem dX12_goesThrough_165 : decode cX12_goesThrough 165 = .ok (.iinc 2 1, 3) := dq132 bw_cX12_goesThrough_6 21 rfl rfl rfl
theorem bw_cX12_goesThrough_7 : dq_w cX12_goesThrough 168 [167, 255, 233, 177] = true := by decide +kernel
theorem dX12_goesThrough_168 : decode cX12_goesThrough 168 = .ok (.goto (-23), 3) := dq167 bw_cX12_goesThrough_7 0 rfl rfl rfl
theorem dX12_goesThrough_171 : decode cX12_goesThrough 171 = .ok (.return_, 1) := dq177 bw_cX12_goesThrough_7 3 rfl rfl
theorem bw_cX12_gates_0 : dq_w cX12_gates 0 [42, 3, 181, 0, 3, 42, 27, 182, 0, 157, 154, 0, 5, 2, 172, 42, 182, 1, 103, 42, 180, 1, 67, 16, 10, 42, 180] = true := by decide +kernel
theorem dX12_gates_0 : decode cX12_gates 0 = .ok (.aload_n 0, 1) := dq42 bw_cX12_gates_0 0 rfl rfl
theorem dX12_gates_1 : decode cX12_gates 1 = .ok (.iconst 0, 1) := dq3 bw_cX12_gates_0 1 rfl rfl
theorem dX12_gates_2 : decode cX12_gates 2 = .ok (.putfield 3, 3) := dq181 bw_cX12_gates_0 2 rfl rfl rfl
theorem dX12_gates_5 : decode cX12_gates 5 = .ok (.aload_n 0, 1) := dq42 bw_cX12_gates_0 5 rfl rfl
theorem dX12_gates_6 : decode cX12_gates 6 = .ok (.iload_n 1, 1) := dq27 bw_cX12_gates_0 6 rfl rfl
theorem dX12_gates_7 : decode cX12_gates 7 = .ok (.invokevirtual 157, 3) := dq182 bw_cX12_gates_0 7 rfl rfl rfl
theorem dX12_gates_10 : decode cX12_gates 10 = .ok (.ifCond .ne 5, 3) := dq154 bw_cX12_gates_0 10 rfl rfl rfl
theorem dX12_gates_13 : decode cX12_gates 13 = .ok (.iconst (-1), 1) := dq2 bw_cX12_gates_0 13 rfl rfl
theorem dX12_gates_14 : decode cX12_gates 14 = .ok (.ireturn, 1) := dq172 bw_cX12_gates_0 14 rfl rfl
theorem dX12_gates_15 : decode cX12_gates 15 = .ok (.aload_n 0, 1) := dq42 bw_cX12_gates_0 15 rfl rfl
theorem dX12_gates_16 : decode cX12_gates 16 = .ok (.invokevirtual 359, 3) := dq182 bw_cX12_gates_0 16 rfl rfl rfl
theorem dX12_gates_19 : decode cX12_gates 19 = .ok (.aload_n 0, 1) := dq42 bw_cX12_gates_0 19 rfl rfl
theorem dX12_gates_20 : decode cX12_gates 20 = .ok (.getfield 323, 3) := dq180 bw_cX12_gates_0 20 rfl rfl rfl
theorem dX12_gates_23 : decode cX12_gates 23 = .ok (.bipush 10, 2) := dq16 bw_cX12_gates_0 23 rfl rfl rfl
theorem bw_cX12_gates_1 : dq_w cX12_gates 24 [10, 42, 180, 0, 123, 104, 27, 96, 46, 61, 28, 19, 1, 70, 161, 0, 6, 16, 254, 172, 3, 62, 29, 42, 180, 0, 14] = true := by decide +kernel
theorem dX12_gates_25 : decode cX12_gates 25 = .ok (.aload_n 0, 1) := dq42 bw_cX12_gates_1 1 rfl rfl
theorem dX12_gates_26 : decode cX12_gates 26 = .ok (.getfield 123, 3) := dq180 bw_cX12_gates_1 2 rfl rfl rfl
theorem dX12_gates_29 : decode cX12_gates 29 = .ok (.imul, 1) := dq104 bw_cX12_gates_1 5 rfl rfl
theorem dX12_gates_30 : decode cX12_gates 30 = .ok (.iload_n 1, 1) := dq27 bw_cX12_gates_1 6 rfl rfl
theorem dX12_gates_31 : decode cX12_gates 31 = .ok (.iadd, 1) := dq96 bw_cX12_gates_1 7 rfl rfl
theorem dX12_gates_32 : decode cX12_gates 32 = .ok (.iaload, 1) := dq46 bw_cX12_gates_1 8 rfl rfl
theorem dX12_gates_33 : decode cX12_gates 33 = .ok (.istore_n 2, 1) := dq61 bw_cX12_gates_1 9 rfl rfl
theorem dX12_gates_34 : decode cX12_gates 34 = .ok (.iload_n 2, 1) := dq28 bw_cX12_gates_1 10 rfl rfl
theorem dX12_gates_35 : decode cX12_gates 35 = .ok (.ldc_w 326, 3) := dq19 bw_cX12_gates_1 11 rfl rfl rfl
theorem dX12_gates_38 : decode cX12_gates 38 = .ok (.if_icmp .lt 6, 3) := dq161 bw_cX12_gates_1 14 rfl rfl rfl
theorem dX12_gates_41 : decode cX12_gates 41 = .ok (.bipush (-2), 2) := dq16 bw_cX12_gates_1 17 rfl rfl rfl
theorem dX12_gates_43 : decode cX12_gates 43 = .ok (.ireturn, 1) := dq172 bw_cX12_gates_1 19 rfl rfl
theorem dX12_gates_44 : decode cX12_gates 44 = .ok (.iconst 0, 1) := dq3 bw_cX12_gates_1 20 rfl rfl
theorem dX12_gates_45 : decode cX12_gates 45 = .ok (.istore_n 3, 1) := dq62 bw_cX12_gates_1 21 rfl rfl
theorem dX12_gates_46 : decode cX12_gates 46 = .ok (.iload_n 3, 1) := dq29 bw_cX12_gates_1 22 rfl rfl
theorem dX12_gates_47 : decode cX12_gates 47 = .ok (.aload_n 0, 1) := dq42 bw_cX12_gates_1 23 rfl rfl
theorem bw_cX12_gates_2 : dq_w cX12_gates 48 [180, 0, 14, 162, 0, 27, 42, 180, 1, 106, 29, 29, 27, 160, 0, 7, 3, 167, 0, 6, 19, 1, 70, 79, 132, 3, 1] = true := by decide +kernel
theorem dX12_gates_48 : decode cX12_gates 48 = .ok (.getfield 14, 3) := dq180 bw_cX12_gates_2 0 rfl rfl rfl
theorem dX12_gates_51 : decode cX12_gates 51 = .ok (.if_icmp .ge 27, 3) := dq162 bw_cX12_gates_2 3 rfl rfl rfl
theorem dX12_gates_54 : decode cX12_gates 54 = .ok (.aload_n 0, 1) := dq42 bw_cX12_gates_2 6 rfl rfl
theorem dX12_gates_55 : decode cX12_gates 55 = .ok (.getfield 362, 3) := dq180 bw_cX12_gates_2 7 rfl rfl rfl
theorem dX12_gates_58 : decode cX12_gates 58 = .ok (.iload_n 3, 1) := dq29 bw_cX12_gates_2 10 rfl rfl
theorem dX12_gates_59 : decode cX12_gates 59 = .ok (.iload_n 3, 1) := dq29 bw_cX12_gates_2 11 rfl rfl
theorem dX12_gates_60 : decode cX12_gates 60 = .ok (.iload_n 1, 1) := dq27 bw_cX12_gates_2 12 rfl rfl
theorem dX12_gates_61 : decode cX12_gates 61 = .ok (.if_icmp .ne 7, 3) := dq160 bw_cX12_gates_2 13 rfl rfl rfl
theorem dX12_gates_64 : decode cX12_gates 64 = .ok (.iconst 0, 1) := dq3 bw_cX12_gates_2 16 rfl rfl
theorem dX12_gates_65 : decode cX12_gates 65 = .ok (.goto 6, 3) := dq167 bw_cX12_gates_2 17 rfl rfl rfl
theorem dX12_gates_68 : decode cX12_gates 68 = .ok (.ldc_w 326, 3) := dq19 bw_cX12_gates_2 20 rfl rfl rfl
theorem dX12_gates_71 : decode cX12_gates 71 = .ok (.iastore, 1) := dq79 bw_cX12_gates_2 23 rfl rfl
theorem bw_cX12_gates_3 : dq_w cX12_gates 72 [132, 3, 1, 167, 255, 227, 42, 3, 181, 0, 11, 42, 180, 0, 123, 62, 29, 153, 0, 56, 3, 54, 4, 29, 21, 4, 184] = true := by decide +kernel
theorem dX12_gates_72 : decode cX12_gates 72 = .ok (.iinc 3 1, 3) := dq132 bw_cX12_gates_3 0 rfl rfl rfl
theorem dX12_gates_75 : decode cX12_gates 75 = .ok (.goto (-29), 3) := dq167 bw_cX12_gates_3 3 rfl rfl rfl
theorem dX12_gates_78 : decode cX12_gates 78 = .ok (.aload_n 0, 1) := dq42 bw_cX12_gates_3 6 rfl rfl
theorem dX12_gates_79 : decode cX12_gates 79 = .ok (.iconst 0, 1) := dq3 bw_cX12_gates_3 7 rfl rfl
theorem dX12_gates_80 : decode cX12_gates 80 = .ok (.putfield 11, 3) := dq181 bw_cX12_gates_3 8 rfl rfl rfl
theorem dX12_gates_83 : decode cX12_gates 83 = .ok (.aload_n 0, 1) := dq42 bw_cX12_gates_3 11 rfl rfl
theorem dX12_gates_84 : decode cX12_gates 84 = .ok (.getfield 123, 3) := dq180 bw_cX12_gates_3 12 rfl rfl rfl
theorem dX12_gates_87 : decode cX12_gates 87 = .ok (.istore_n 3, 1) := dq62 bw_cX12_gates_3 15 rfl rfl
theorem dX12_gates_88 : decode cX12_gates 88 = .ok (.iload_n 3, 1) := dq29 bw_cX12_gates_3 16 rfl rfl
theorem dX12_gates_89 : decode cX12_gates 89 = .ok (.ifCond .eq 56, 3) := dq153 bw_cX12_gates_3 17 rfl rfl rfl
theorem dX12_gates_92 : decode cX12_gates 92 = .ok (.iconst 0, 1) := dq3 bw_cX12_gates_3 20 rfl rfl
theorem dX12_gates_93 : decode cX12_gates 93 = .ok (.istore 4, 2) := dq54 bw_cX12_gates_3 21 rfl rfl
theorem dX12_gates_95 : decode cX12_gates 95 = .ok (.iload_n 3, 1) := dq29 bw_cX12_gates_3 23 rfl rfl
theorem bw_cX12_gates_4 : dq_w cX12_gates 96 [21, 4, 184, 0, 144, 153, 0, 14, 42, 29, 21, 4, 28, 182, 1, 109, 154, 0, 9, 132, 4, 1, 167, 255, 233, 42, 21] = true := by decide +kernel
theorem dX12_gates_96 : decode cX12_gates 96 = .ok (.iload 4, 2) := dq21 bw_cX12_gates_4 0 rfl rfl
theorem dX12_gates_98 : decode cX12_gates 98 = .ok (.invokestatic 144, 3) := dq184 bw_cX12_gates_4 2 rfl rfl rfl
theorem dX12_gates_101 : decode cX12_gates 101 = .ok (.ifCond .eq 14, 3) := dq153 bw_cX12_gates_4 5 rfl rfl rfl
theorem dX12_gates_104 : decode cX12_gates 104 = .ok (.aload_n 0, 1) := dq42 bw_cX12_gates_4 8 rfl rfl
theorem dX12_gates_105 : decode cX12_gates 105 = .ok (.iload_n 3, 1) := dq29 bw_cX12_gates_4 9 rfl rfl
theorem dX12_gates_106 : decode cX12_gates 106 = .ok (.iload 4, 2) := dq21 bw_cX12_gates_4 10 rfl rfl
theorem dX12_gates_108 : decode cX12_gates 108 = .ok (.iload_n 2, 1) := dq28 bw_cX12_gates_4 12 rfl rfl
theorem dX12_gates_109 : decode cX12_gates 109 = .ok (.invokevirtual 365, 3) := dq182 bw_cX12_gates_4 13 rfl rfl rfl
theorem dX12_gates_112 : decode cX12_gates 112 = .ok (.ifCond .ne 9, 3) := dq154 bw_cX12_gates_4 16 rfl rfl rfl
theorem dX12_gates_115 : decode cX12_gates 115 = .ok (.iinc 4 1, 3) := dq132 bw_cX12_gates_4 19 rfl rfl rfl
theorem dX12_gates_118 : decode cX12_gates 118 = .ok (.goto (-23), 3) := dq167 bw_cX12_gates_4 22 rfl rfl rfl
theorem bw_cX12_gates_5 : dq_w cX12_gates 120 [233, 42, 21, 4, 182, 0, 229, 42, 21, 4, 182, 1, 113, 29, 4, 21, 4, 120, 2, 130, 126, 62, 167, 255, 202, 28, 172] = true := by decide +kernel
theorem dX12_gates_121 : decode cX12_gates 121 = .ok (.aload_n 0, 1) := dq42 bw_cX12_gates_5 1 rfl rfl
theorem dX12_gates_122 : decode cX12_gates 122 = .ok (.iload 4, 2) := dq21 bw_cX12_gates_5 2 rfl rfl
theorem dX12_gates_124 : decode cX12_gates 124 = .ok (.invokevirtual 229, 3) := dq182 bw_cX12_gates_5 4 rfl rfl rfl
theorem dX12_gates_127 : decode cX12_gates 127 = .ok (.aload_n 0, 1) := dq42 bw_cX12_gates_5 7 rfl rfl
theorem dX12_gates_128 : decode cX12_gates 128 = .ok (.iload 4, 2) := dq21 bw_cX12_gates_5 8 rfl rfl
theorem dX12_gates_130 : decode cX12_gates 130 = .ok (.invokevirtual 369, 3) := dq182 bw_cX12_gates_5 10 rfl rfl rfl
theorem dX12_gates_133 : decode cX12_gates 133 = .ok (.iload_n 3, 1) := dq29 bw_cX12_gates_5 13 rfl rfl
theorem dX12_gates_134 : decode cX12_gates 134 = .ok (.iconst 1, 1) := dq4 bw_cX12_gates_5 14 rfl rfl
theorem dX12_gates_135 : decode cX12_gates 135 = .ok (.iload 4, 2) := dq21 bw_cX12_gates_5 15 rfl rfl
theorem dX12_gates_137 : decode cX12_gates 137 = .ok (.ishl, 1) := dq120 bw_cX12_gates_5 17 rfl rfl
theorem dX12_gates_138 : decode cX12_gates 138 = .ok (.iconst (-1), 1) := dq2 bw_cX12_gates_5 18 rfl rfl
theorem dX12_gates_139 : decode cX12_gates 139 = .ok (.ixor, 1) := dq130 bw_cX12_gates_5 19 rfl rfl
theorem dX12_gates_140 : decode cX12_gates 140 = .ok (.iand, 1) := dq126 bw_cX12_gates_5 20 rfl rfl
theorem dX12_gates_141 : decode cX12_gates 141 = .ok (.istore_n 3, 1) := dq62 bw_cX12_gates_5 21 rfl rfl
theorem dX12_gates_142 : decode cX12_gates 142 = .ok (.goto (-54), 3) := dq167 bw_cX12_gates_5 22 rfl rfl rfl
theorem bw_cX12_gates_6 : dq_w cX12_gates 144 [202, 28, 172] = true := by decide +kernel
theorem dX12_gates_145 : decode cX12_gates 145 = .ok (.iload_n 2, 1) := dq28 bw_cX12_gates_6 1 rfl rfl
theorem dX12_gates_146 : decode cX12_gates 146 = .ok (.ireturn, 1) := dq172 bw_cX12_gates_6 2 rfl rfl
theorem bw_cX12_heard_0 : dq_w cX12_heard 0 [42, 3, 181, 0, 3, 42, 27, 182, 0, 135, 153, 0, 24, 28, 133, 9, 20, 1, 123, 184, 0, 17, 153, 0, 12, 42, 180] = true := by decide +kernel
theorem dX12_heard_0 : decode cX12_heard 0 = .ok (.aload_n 0, 1) := dq42 bw_cX12_heard_0 0 rfl rfl
theorem dX12_heard_1 : decode cX12_heard 1 = .ok (.iconst 0, 1) := dq3 bw_cX12_heard_0 1 rfl rfl
theorem dX12_heard_2 : decode cX12_heard 2 = .ok (.putfield 3, 3) := dq181 bw_cX12_heard_0 2 rfl rfl rfl
theorem dX12_heard_5 : decode cX12_heard 5 = .ok (.aload_n 0, 1) := dq42 bw_cX12_heard_0 5 rfl rfl
theorem dX12_heard_6 : decode cX12_heard 6 = .ok (.iload_n 1, 1) := dq27 bw_cX12_heard_0 6 rfl rfl
theorem dX12_heard_7 : decode cX12_heard 7 = .ok (.invokevirtual 135, 3) := dq182 bw_cX12_heard_0 7 rfl rfl rfl
theorem dX12_heard_10 : decode cX12_heard 10 = .ok (.ifCond .eq 24, 3) := dq153 bw_cX12_heard_0 10 rfl rfl rfl
theorem dX12_heard_13 : decode cX12_heard 13 = .ok (.iload_n 2, 1) := dq28 bw_cX12_heard_0 13 rfl rfl
theorem dX12_heard_14 : decode cX12_heard 14 = .ok (.i2l, 1) := dq133 bw_cX12_heard_0 14 rfl rfl
theorem dX12_heard_15 : decode cX12_heard 15 = .ok (.lconst 0, 1) := dq9 bw_cX12_heard_0 15 rfl rfl
theorem dX12_heard_16 : decode cX12_heard 16 = .ok (.ldc2_w 379, 3) := dq20 bw_cX12_heard_0 16 rfl rfl rfl
theorem dX12_heard_19 : decode cX12_heard 19 = .ok (.invokestatic 17, 3) := dq184 bw_cX12_heard_0 19 rfl rfl rfl
theorem dX12_heard_22 : decode cX12_heard 22 = .ok (.ifCond .eq 12, 3) := dq153 bw_cX12_heard_0 22 rfl rfl rfl
theorem bw_cX12_heard_1 : dq_w cX12_heard 24 [12, 42, 180, 1, 125, 16, 12, 160, 0, 5, 2, 172, 42, 180, 1, 128, 42, 180, 1, 125, 27, 79, 42, 180, 1, 131, 42] = true := by decide +kernel
theorem dX12_heard_25 : decode cX12_heard 25 = .ok (.aload_n 0, 1) := dq42 bw_cX12_heard_1 1 rfl rfl
theorem dX12_heard_26 : decode cX12_heard 26 = .ok (.getfield 381, 3) := dq180 bw_cX12_heard_1 2 rfl rfl rfl
theorem dX12_heard_29 : decode cX12_heard 29 = .ok (.bipush 12, 2) := dq16 bw_cX12_heard_1 5 rfl rfl rfl
theorem dX12_heard_31 : decode cX12_heard 31 = .ok (.if_icmp .ne 5, 3) := dq160 bw_cX12_heard_1 7 rfl rfl rfl
theorem dX12_heard_34 : decode cX12_heard 34 = .ok (.iconst (-1), 1) := dq2 bw_cX12_heard_1 10 rfl rfl
theorem dX12_heard_35 : decode cX12_heard 35 = .ok (.ireturn, 1) := dq172 bw_cX12_heard_1 11 rfl rfl
theorem dX12_heard_36 : decode cX12_heard 36 = .ok (.aload_n 0, 1) := dq42 bw_cX12_heard_1 12 rfl rfl
theorem dX12_heard_37 : decode cX12_heard 37 = .ok (.getfield 384, 3) := dq180 bw_cX12_heard_1 13 rfl rfl rfl
theorem dX12_heard_40 : decode cX12_heard 40 = .ok (.aload_n 0, 1) := dq42 bw_cX12_heard_1 16 rfl rfl
theorem dX12_heard_41 : decode cX12_heard 41 = .ok (.getfield 381, 3) := dq180 bw_cX12_heard_1 17 rfl rfl rfl
theorem dX12_heard_44 : decode cX12_heard 44 = .ok (.iload_n 1, 1) := dq27 bw_cX12_heard_1 20 rfl rfl
theorem dX12_heard_45 : decode cX12_heard 45 = .ok (.iastore, 1) := dq79 bw_cX12_heard_1 21 rfl rfl
theorem dX12_heard_46 : decode cX12_heard 46 = .ok (.aload_n 0, 1) := dq42 bw_cX12_heard_1 22 rfl rfl
theorem dX12_heard_47 : decode cX12_heard 47 = .ok (.getfield 387, 3) := dq180 bw_cX12_heard_1 23 rfl rfl rfl
theorem bw_cX12_heard_2 : dq_w cX12_heard 48 [1, 131, 42, 180, 1, 125, 28, 79, 42, 89, 180, 1, 125, 4, 96, 181, 1, 125, 42, 180, 1, 125, 172] = true := by decide +kernel
theorem dX12_heard_50 : decode cX12_heard 50 = .ok (.aload_n 0, 1) := dq42 bw_cX12_heard_2 2 rfl rfl
theorem dX12_heard_51 : decode cX12_heard 51 = .ok (.getfield 381, 3) := dq180 bw_cX12_heard_2 3 rfl rfl rfl
theorem dX12_heard_54 : decode cX12_heard 54 = .ok (.iload_n 2, 1) := dq28 bw_cX12_heard_2 6 rfl rfl
theorem dX12_heard_55 : decode cX12_heard 55 = .ok (.iastore, 1) := dq79 bw_cX12_heard_2 7 rfl rfl
theorem dX12_heard_56 : decode cX12_heard 56 = .ok (.aload_n 0, 1) := dq42 bw_cX12_heard_2 8 rfl rfl
theorem dX12_heard_57 : decode cX12_heard 57 = .ok (.dup, 1) := dq89 bw_cX12_heard_2 9 rfl rfl
theorem dX12_heard_58 : decode cX12_heard 58 = .ok (.getfield 381, 3) := dq180 bw_cX12_heard_2 10 rfl rfl rfl
theorem dX12_heard_61 : decode cX12_heard 61 = .ok (.iconst 1, 1) := dq4 bw_cX12_heard_2 13 rfl rfl
theorem dX12_heard_62 : decode cX12_heard 62 = .ok (.iadd, 1) := dq96 bw_cX12_heard_2 14 rfl rfl
theorem dX12_heard_63 : decode cX12_heard 63 = .ok (.putfield 381, 3) := dq181 bw_cX12_heard_2 15 rfl rfl rfl
theorem dX12_heard_66 : decode cX12_heard 66 = .ok (.aload_n 0, 1) := dq42 bw_cX12_heard_2 18 rfl rfl
theorem dX12_heard_67 : decode cX12_heard 67 = .ok (.getfield 381, 3) := dq180 bw_cX12_heard_2 19 rfl rfl rfl
theorem dX12_heard_70 : decode cX12_heard 70 = .ok (.ireturn, 1) := dq172 bw_cX12_heard_2 22 rfl rfl
theorem bw_cX12_forget_0 : dq_w cX12_forget 0 [42, 3, 181, 0, 3, 42, 180, 1, 125, 154, 0, 5, 2, 172, 42, 89, 180, 1, 125, 4, 100, 181, 1, 125, 42, 180, 1] = true := by decide +kernel
theorem dX12_forget_0 : decode cX12_forget 0 = .ok (.aload_n 0, 1) := dq42 bw_cX12_forget_0 0 rfl rfl
theorem dX12_forget_1 : decode cX12_forget 1 = .ok (.iconst 0, 1) := dq3 bw_cX12_forget_0 1 rfl rfl
theorem dX12_forget_2 : decode cX12_forget 2 = .ok (.putfield 3, 3) := dq181 bw_cX12_forget_0 2 rfl rfl rfl
theorem dX12_forget_5 : decode cX12_forget 5 = .ok (.aload_n 0, 1) := dq42 bw_cX12_forget_0 5 rfl rfl
theorem dX12_forget_6 : decode cX12_forget 6 = .ok (.getfield 381, 3) := dq180 bw_cX12_forget_0 6 rfl rfl rfl
theorem dX12_forget_9 : decode cX12_forget 9 = .ok (.ifCond .ne 5, 3) := dq154 bw_cX12_forget_0 9 rfl rfl rfl
theorem dX12_forget_12 : decode cX12_forget 12 = .ok (.iconst (-1), 1) := dq2 bw_cX12_forget_0 12 rfl rfl
theorem dX12_forget_13 : decode cX12_forget 13 = .ok (.ireturn, 1) := dq172 bw_cX12_forget_0 13 rfl rfl
theorem dX12_forget_14 : decode cX12_forget 14 = .ok (.aload_n 0, 1) := dq42 bw_cX12_forget_0 14 rfl rfl
theorem dX12_forget_15 : decode cX12_forget 15 = .ok (.dup, 1) := dq89 bw_cX12_forget_0 15 rfl rfl
theorem dX12_forget_16 : decode cX12_forget 16 = .ok (.getfield 381, 3) := dq180 bw_cX12_forget_0 16 rfl rfl rfl
theorem dX12_forget_19 : decode cX12_forget 19 = .ok (.iconst 1, 1) := dq4 bw_cX12_forget_0 19 rfl rfl
theorem dX12_forget_20 : decode cX12_forget 20 = .ok (.isub, 1) := dq100 bw_cX12_forget_0 20 rfl rfl
theorem dX12_forget_21 : decode cX12_forget 21 = .ok (.putfield 381, 3) := dq181 bw_cX12_forget_0 21 rfl rfl rfl
theorem bw_cX12_forget_1 : dq_w cX12_forget 24 [42, 180, 1, 125, 172] = true := by decide +kernel
theorem dX12_forget_24 : decode cX12_forget 24 = .ok (.aload_n 0, 1) := dq42 bw_cX12_forget_1 0 rfl rfl
theorem dX12_forget_25 : decode cX12_forget 25 = .ok (.getfield 381, 3) := dq180 bw_cX12_forget_1 1 rfl rfl rfl
theorem dX12_forget_28 : decode cX12_forget 28 = .ok (.ireturn, 1) := dq172 bw_cX12_forget_1 4 rfl rfl
theorem bw_cX12_cowsOf_0 : dq_w cX12_cowsOf 0 [26, 5, 8, 27, 100, 104, 122, 6, 126, 172] = true := by decide +kernel
theorem dX12_cowsOf_0 : decode cX12_cowsOf 0 = .ok (.iload_n 0, 1) := dq26 bw_cX12_cowsOf_0 0 rfl rfl
theorem dX12_cowsOf_1 : decode cX12_cowsOf 1 = .ok (.iconst 2, 1) := dq5 bw_cX12_cowsOf_0 1 rfl rfl
theorem dX12_cowsOf_2 : decode cX12_cowsOf 2 = .ok (.iconst 5, 1) := dq8 bw_cX12_cowsOf_0 2 rfl rfl
theorem dX12_cowsOf_3 : decode cX12_cowsOf 3 = .ok (.iload_n 1, 1) := dq27 bw_cX12_cowsOf_0 3 rfl rfl
theorem dX12_cowsOf_4 : decode cX12_cowsOf 4 = .ok (.isub, 1) := dq100 bw_cX12_cowsOf_0 4 rfl rfl
theorem dX12_cowsOf_5 : decode cX12_cowsOf 5 = .ok (.imul, 1) := dq104 bw_cX12_cowsOf_0 5 rfl rfl
theorem dX12_cowsOf_6 : decode cX12_cowsOf 6 = .ok (.ishr, 1) := dq122 bw_cX12_cowsOf_0 6 rfl rfl
theorem dX12_cowsOf_7 : decode cX12_cowsOf 7 = .ok (.iconst 3, 1) := dq6 bw_cX12_cowsOf_0 7 rfl rfl
theorem dX12_cowsOf_8 : decode cX12_cowsOf 8 = .ok (.iand, 1) := dq126 bw_cX12_cowsOf_0 8 rfl rfl
theorem dX12_cowsOf_9 : decode cX12_cowsOf 9 = .ok (.ireturn, 1) := dq172 bw_cX12_cowsOf_0 9 rfl rfl
theorem bw_cX12_digitsOf_0 : dq_w cX12_digitsOf 0 [3, 60, 3, 61, 28, 16, 6, 162, 0, 20, 16, 10, 27, 104, 26, 28, 184, 1, 134, 96, 60, 132, 2, 1, 167, 255, 236] = true := by decide +kernel
theorem dX12_digitsOf_0 : decode cX12_digitsOf 0 = .ok (.iconst 0, 1) := dq3 bw_cX12_digitsOf_0 0 rfl rfl
theorem dX12_digitsOf_1 : decode cX12_digitsOf 1 = .ok (.istore_n 1, 1) := dq60 bw_cX12_digitsOf_0 1 rfl rfl
theorem dX12_digitsOf_2 : decode cX12_digitsOf 2 = .ok (.iconst 0, 1) := dq3 bw_cX12_digitsOf_0 2 rfl rfl
theorem dX12_digitsOf_3 : decode cX12_digitsOf 3 = .ok (.istore_n 2, 1) := dq61 bw_cX12_digitsOf_0 3 rfl rfl
theorem dX12_digitsOf_4 : decode cX12_digitsOf 4 = .ok (.iload_n 2, 1) := dq28 bw_cX12_digitsOf_0 4 rfl rfl
theorem dX12_digitsOf_5 : decode cX12_digitsOf 5 = .ok (.bipush 6, 2) := dq16 bw_cX12_digitsOf_0 5 rfl rfl rfl
theorem dX12_digitsOf_7 : decode cX12_digitsOf 7 = .ok (.if_icmp .ge 20, 3) := dq162 bw_cX12_digitsOf_0 7 rfl rfl rfl
theorem dX12_digitsOf_10 : decode cX12_digitsOf 10 = .ok (.bipush 10, 2) := dq16 bw_cX12_digitsOf_0 10 rfl rfl rfl
theorem dX12_digitsOf_12 : decode cX12_digitsOf 12 = .ok (.iload_n 1, 1) := dq27 bw_cX12_digitsOf_0 12 rfl rfl
theorem dX12_digitsOf_13 : decode cX12_digitsOf 13 = .ok (.imul, 1) := dq104 bw_cX12_digitsOf_0 13 rfl rfl
theorem dX12_digitsOf_14 : decode cX12_digitsOf 14 = .ok (.iload_n 0, 1) := dq26 bw_cX12_digitsOf_0 14 rfl rfl
theorem dX12_digitsOf_15 : decode cX12_digitsOf 15 = .ok (.iload_n 2, 1) := dq28 bw_cX12_digitsOf_0 15 rfl rfl
theorem dX12_digitsOf_16 : decode cX12_digitsOf 16 = .ok (.invokestatic 390, 3) := dq184 bw_cX12_digitsOf_0 16 rfl rfl rfl
theorem dX12_digitsOf_19 : decode cX12_digitsOf 19 = .ok (.iadd, 1) := dq96 bw_cX12_digitsOf_0 19 rfl rfl
theorem dX12_digitsOf_20 : decode cX12_digitsOf 20 = .ok (.istore_n 1, 1) := dq60 bw_cX12_digitsOf_0 20 rfl rfl
theorem dX12_digitsOf_21 : decode cX12_digitsOf 21 = .ok (.iinc 2 1, 3) := dq132 bw_cX12_digitsOf_0 21 rfl rfl rfl
theorem bw_cX12_digitsOf_1 : dq_w cX12_digitsOf 24 [167, 255, 236, 27, 172] = true := by decide +kernel
theorem dX12_digitsOf_24 : decode cX12_digitsOf 24 = .ok (.goto (-20), 3) := dq167 bw_cX12_digitsOf_1 0 rfl rfl rfl
theorem dX12_digitsOf_27 : decode cX12_digitsOf 27 = .ok (.iload_n 1, 1) := dq27 bw_cX12_digitsOf_1 3 rfl rfl
theorem dX12_digitsOf_28 : decode cX12_digitsOf 28 = .ok (.ireturn, 1) := dq172 bw_cX12_digitsOf_1 4 rfl rfl
theorem bw_cX12_over_0 : dq_w cX12_over 0 [27, 42, 180, 0, 89, 28, 46, 184, 1, 134, 27, 42, 180, 0, 92, 28, 46, 184, 1, 134, 96, 172] = true := by decide +kernel
theorem dX12_over_0 : decode cX12_over 0 = .ok (.iload_n 1, 1) := dq27 bw_cX12_over_0 0 rfl rfl
theorem dX12_over_1 : decode cX12_over 1 = .ok (.aload_n 0, 1) := dq42 bw_cX12_over_0 1 rfl rfl
theorem dX12_over_2 : decode cX12_over 2 = .ok (.getfield 89, 3) := dq180 bw_cX12_over_0 2 rfl rfl rfl
theorem dX12_over_5 : decode cX12_over 5 = .ok (.iload_n 2, 1) := dq28 bw_cX12_over_0 5 rfl rfl
theorem dX12_over_6 : decode cX12_over 6 = .ok (.iaload, 1) := dq46 bw_cX12_over_0 6 rfl rfl
theorem dX12_over_7 : decode cX12_over 7 = .ok (.invokestatic 390, 3) := dq184 bw_cX12_over_0 7 rfl rfl rfl
theorem dX12_over_10 : decode cX12_over 10 = .ok (.iload_n 1, 1) := dq27 bw_cX12_over_0 10 rfl rfl
theorem dX12_over_11 : decode cX12_over 11 = .ok (.aload_n 0, 1) := dq42 bw_cX12_over_0 11 rfl rfl
theorem dX12_over_12 : decode cX12_over 12 = .ok (.getfield 92, 3) := dq180 bw_cX12_over_0 12 rfl rfl rfl
theorem dX12_over_15 : decode cX12_over 15 = .ok (.iload_n 2, 1) := dq28 bw_cX12_over_0 15 rfl rfl
theorem dX12_over_16 : decode cX12_over 16 = .ok (.iaload, 1) := dq46 bw_cX12_over_0 16 rfl rfl
theorem dX12_over_17 : decode cX12_over 17 = .ok (.invokestatic 390, 3) := dq184 bw_cX12_over_0 17 rfl rfl rfl
theorem dX12_over_20 : decode cX12_over 20 = .ok (.iadd, 1) := dq96 bw_cX12_over_0 20 rfl rfl
theorem dX12_over_21 : decode cX12_over 21 = .ok (.ireturn, 1) := dq172 bw_cX12_over_0 21 rfl rfl
theorem bw_cX12_wrongOf_0 : dq_w cX12_wrongOf 0 [3, 61, 3, 62, 29, 42, 180, 1, 125, 162, 0, 39, 28, 42, 27, 42, 180, 1, 128, 29, 46, 182, 1, 137, 42, 180, 1] = true := by decide +kernel
theorem dX12_wrongOf_0 : decode cX12_wrongOf 0 = .ok (.iconst 0, 1) := dq3 bw_cX12_wrongOf_0 0 rfl rfl
theorem dX12_wrongOf_1 : decode cX12_wrongOf 1 = .ok (.istore_n 2, 1) := dq61 bw_cX12_wrongOf_0 1 rfl rfl
theorem dX12_wrongOf_2 : decode cX12_wrongOf 2 = .ok (.iconst 0, 1) := dq3 bw_cX12_wrongOf_0 2 rfl rfl
theorem dX12_wrongOf_3 : decode cX12_wrongOf 3 = .ok (.istore_n 3, 1) := dq62 bw_cX12_wrongOf_0 3 rfl rfl
theorem dX12_wrongOf_4 : decode cX12_wrongOf 4 = .ok (.iload_n 3, 1) := dq29 bw_cX12_wrongOf_0 4 rfl rfl
theorem dX12_wrongOf_5 : decode cX12_wrongOf 5 = .ok (.aload_n 0, 1) := dq42 bw_cX12_wrongOf_0 5 rfl rfl
theorem dX12_wrongOf_6 : decode cX12_wrongOf 6 = .ok (.getfield 381, 3) := dq180 bw_cX12_wrongOf_0 6 rfl rfl rfl
theorem dX12_wrongOf_9 : decode cX12_wrongOf 9 = .ok (.if_icmp .ge 39, 3) := dq162 bw_cX12_wrongOf_0 9 rfl rfl rfl
theorem dX12_wrongOf_12 : decode cX12_wrongOf 12 = .ok (.iload_n 2, 1) := dq28 bw_cX12_wrongOf_0 12 rfl rfl
theorem dX12_wrongOf_13 : decode cX12_wrongOf 13 = .ok (.aload_n 0, 1) := dq42 bw_cX12_wrongOf_0 13 rfl rfl
theorem dX12_wrongOf_14 : decode cX12_wrongOf 14 = .ok (.iload_n 1, 1) := dq27 bw_cX12_wrongOf_0 14 rfl rfl
theorem dX12_wrongOf_15 : decode cX12_wrongOf 15 = .ok (.aload_n 0, 1) := dq42 bw_cX12_wrongOf_0 15 rfl rfl
theorem dX12_wrongOf_16 : decode cX12_wrongOf 16 = .ok (.getfield 384, 3) := dq180 bw_cX12_wrongOf_0 16 rfl rfl rfl
theorem dX12_wrongOf_19 : decode cX12_wrongOf 19 = .ok (.iload_n 3, 1) := dq29 bw_cX12_wrongOf_0 19 rfl rfl
theorem dX12_wrongOf_20 : decode cX12_wrongOf 20 = .ok (.iaload, 1) := dq46 bw_cX12_wrongOf_0 20 rfl rfl
theorem dX12_wrongOf_21 : decode cX12_wrongOf 21 = .ok (.invokevirtual 393, 3) := dq182 bw_cX12_wrongOf_0 21 rfl rfl rfl
theorem bw_cX12_wrongOf_1 : dq_w cX12_wrongOf 24 [42, 180, 1, 131, 29, 46, 159, 0, 9, 4, 29, 120, 167, 0, 4, 3, 128, 61, 132, 3, 1, 167, 255, 215, 28, 172] = true := by decide +kernel
theorem dX12_wrongOf_24 : decode cX12_wrongOf 24 = .ok (.aload_n 0, 1) := dq42 bw_cX12_wrongOf_1 0 rfl rfl
theorem dX12_wrongOf_25 : decode cX12_wrongOf 25 = .ok (.getfield 387, 3) := dq180 bw_cX12_wrongOf_1 1 rfl rfl rfl
theorem dX12_wrongOf_28 : decode cX12_wrongOf 28 = .ok (.iload_n 3, 1) := dq29 bw_cX12_wrongOf_1 4 rfl rfl
theorem dX12_wrongOf_29 : decode cX12_wrongOf 29 = .ok (.iaload, 1) := dq46 bw_cX12_wrongOf_1 5 rfl rfl
theorem dX12_wrongOf_30 : decode cX12_wrongOf 30 = .ok (.if_icmp .eq 9, 3) := dq159 bw_cX12_wrongOf_1 6 rfl rfl rfl
theorem dX12_wrongOf_33 : decode cX12_wrongOf 33 = .ok (.iconst 1, 1) := dq4 bw_cX12_wrongOf_1 9 rfl rfl
theorem dX12_wrongOf_34 : decode cX12_wrongOf 34 = .ok (.iload_n 3, 1) := dq29 bw_cX12_wrongOf_1 10 rfl rfl
theorem dX12_wrongOf_35 : decode cX12_wrongOf 35 = .ok (.ishl, 1) := dq120 bw_cX12_wrongOf_1 11 rfl rfl
theorem dX12_wrongOf_36 : decode cX12_wrongOf 36 = .ok (.goto 4, 3) := dq167 bw_cX12_wrongOf_1 12 rfl rfl rfl
theorem dX12_wrongOf_39 : decode cX12_wrongOf 39 = .ok (.iconst 0, 1) := dq3 bw_cX12_wrongOf_1 15 rfl rfl
theorem dX12_wrongOf_40 : decode cX12_wrongOf 40 = .ok (.ior, 1) := dq128 bw_cX12_wrongOf_1 16 rfl rfl
theorem dX12_wrongOf_41 : decode cX12_wrongOf 41 = .ok (.istore_n 2, 1) := dq61 bw_cX12_wrongOf_1 17 rfl rfl
theorem dX12_wrongOf_42 : decode cX12_wrongOf 42 = .ok (.iinc 3 1, 3) := dq132 bw_cX12_wrongOf_1 18 rfl rfl rfl
theorem dX12_wrongOf_45 : decode cX12_wrongOf 45 = .ok (.goto (-41), 3) := dq167 bw_cX12_wrongOf_1 21 rfl rfl rfl
theorem bw_cX12_wrongOf_2 : dq_w cX12_wrongOf 48 [28, 172] = true := by decide +kernel
theorem dX12_wrongOf_48 : decode cX12_wrongOf 48 = .ok (.iload_n 2, 1) := dq28 bw_cX12_wrongOf_2 0 rfl rfl
theorem dX12_wrongOf_49 : decode cX12_wrongOf 49 = .ok (.ireturn, 1) := dq172 bw_cX12_wrongOf_2 1 rfl rfl
theorem bw_cX12_lands_0 : dq_w cX12_lands 0 [42, 3, 181, 0, 3, 3, 60, 3, 61, 3, 62, 29, 17, 16, 0, 162, 0, 30, 42, 29, 182, 1, 140, 154, 0, 16, 27] = true := by decide +kernel
theorem dX12_lands_0 : decode cX12_lands 0 = .ok (.aload_n 0, 1) := dq42 bw_cX12_lands_0 0 rfl rfl
theorem dX12_lands_1 : decode cX12_lands 1 = .ok (.iconst 0, 1) := dq3 bw_cX12_lands_0 1 rfl rfl
theorem dX12_lands_2 : decode cX12_lands 2 = .ok (.putfield 3, 3) := dq181 bw_cX12_lands_0 2 rfl rfl rfl
theorem dX12_lands_5 : decode cX12_lands 5 = .ok (.iconst 0, 1) := dq3 bw_cX12_lands_0 5 rfl rfl
theorem dX12_lands_6 : decode cX12_lands 6 = .ok (.istore_n 1, 1) := dq60 bw_cX12_lands_0 6 rfl rfl
theorem dX12_lands_7 : decode cX12_lands 7 = .ok (.iconst 0, 1) := dq3 bw_cX12_lands_0 7 rfl rfl
theorem dX12_lands_8 : decode cX12_lands 8 = .ok (.istore_n 2, 1) := dq61 bw_cX12_lands_0 8 rfl rfl
theorem dX12_lands_9 : decode cX12_lands 9 = .ok (.iconst 0, 1) := dq3 bw_cX12_lands_0 9 rfl rfl
theorem dX12_lands_10 : decode cX12_lands 10 = .ok (.istore_n 3, 1) := dq62 bw_cX12_lands_0 10 rfl rfl
theorem dX12_lands_11 : decode cX12_lands 11 = .ok (.iload_n 3, 1) := dq29 bw_cX12_lands_0 11 rfl rfl
theorem dX12_lands_12 : decode cX12_lands 12 = .ok (.sipush 4096, 3) := dq17 bw_cX12_lands_0 12 rfl rfl rfl
theorem dX12_lands_15 : decode cX12_lands 15 = .ok (.if_icmp .ge 30, 3) := dq162 bw_cX12_lands_0 15 rfl rfl rfl
theorem dX12_lands_18 : decode cX12_lands 18 = .ok (.aload_n 0, 1) := dq42 bw_cX12_lands_0 18 rfl rfl
theorem dX12_lands_19 : decode cX12_lands 19 = .ok (.iload_n 3, 1) := dq29 bw_cX12_lands_0 19 rfl rfl
theorem dX12_lands_20 : decode cX12_lands 20 = .ok (.invokevirtual 396, 3) := dq182 bw_cX12_lands_0 20 rfl rfl rfl
theorem dX12_lands_23 : decode cX12_lands 23 = .ok (.ifCond .ne 16, 3) := dq154 bw_cX12_lands_0 23 rfl rfl rfl
theorem bw_cX12_lands_1 : dq_w cX12_lands 24 [0, 16, 27, 154, 0, 7, 29, 167, 0, 4, 28, 61, 132, 1, 1, 132, 3, 1, 167, 255, 225, 42, 3, 181, 0, 11, 27] = true := by decide +kernel
theorem dX12_lands_26 : decode cX12_lands 26 = .ok (.iload_n 1, 1) := dq27 bw_cX12_lands_1 2 rfl rfl
theorem dX12_lands_27 : decode cX12_lands 27 = .ok (.ifCond .ne 7, 3) := dq154 bw_cX12_lands_1 3 rfl rfl rfl
theorem dX12_lands_30 : decode cX12_lands 30 = .ok (.iload_n 3, 1) := dq29 bw_cX12_lands_1 6 rfl rfl
theorem dX12_lands_31 : decode cX12_lands 31 = .ok (.goto 4, 3) := dq167 bw_cX12_lands_1 7 rfl rfl rfl
theorem dX12_lands_34 : decode cX12_lands 34 = .ok (.iload_n 2, 1) := dq28 bw_cX12_lands_1 10 rfl rfl
theorem dX12_lands_35 : decode cX12_lands 35 = .ok (.istore_n 2, 1) := dq61 bw_cX12_lands_1 11 rfl rfl
theorem dX12_lands_36 : decode cX12_lands 36 = .ok (.iinc 1 1, 3) := dq132 bw_cX12_lands_1 12 rfl rfl rfl
theorem dX12_lands_39 : decode cX12_lands 39 = .ok (.iinc 3 1, 3) := dq132 bw_cX12_lands_1 15 rfl rfl rfl
theorem dX12_lands_42 : decode cX12_lands 42 = .ok (.goto (-31), 3) := dq167 bw_cX12_lands_1 18 rfl rfl rfl
theorem dX12_lands_45 : decode cX12_lands 45 = .ok (.aload_n 0, 1) := dq42 bw_cX12_lands_1 21 rfl rfl
theorem dX12_lands_46 : decode cX12_lands 46 = .ok (.iconst 0, 1) := dq3 bw_cX12_lands_1 22 rfl rfl
theorem dX12_lands_47 : decode cX12_lands 47 = .ok (.putfield 11, 3) := dq181 bw_cX12_lands_1 23 rfl rfl rfl
theorem bw_cX12_lands_2 : dq_w cX12_lands 48 [0, 11, 27, 158, 0, 11, 42, 28, 184, 1, 143, 182, 0, 229, 27, 172] = true := by decide +kernel
theorem dX12_lands_50 : decode cX12_lands 50 = .ok (.iload_n 1, 1) := dq27 bw_cX12_lands_2 2 rfl rfl
theorem dX12_lands_51 : decode cX12_lands 51 = .ok (.ifCond .le 11, 3) := dq158 bw_cX12_lands_2 3 rfl rfl rfl
theorem dX12_lands_54 : decode cX12_lands 54 = .ok (.aload_n 0, 1) := dq42 bw_cX12_lands_2 6 rfl rfl
theorem dX12_lands_55 : decode cX12_lands 55 = .ok (.iload_n 2, 1) := dq28 bw_cX12_lands_2 7 rfl rfl
theorem dX12_lands_56 : decode cX12_lands 56 = .ok (.invokestatic 399, 3) := dq184 bw_cX12_lands_2 8 rfl rfl rfl
theorem dX12_lands_59 : decode cX12_lands 59 = .ok (.invokevirtual 229, 3) := dq182 bw_cX12_lands_2 11 rfl rfl rfl
theorem dX12_lands_62 : decode cX12_lands 62 = .ok (.iload_n 1, 1) := dq27 bw_cX12_lands_2 14 rfl rfl
theorem dX12_lands_63 : decode cX12_lands 63 = .ok (.ireturn, 1) := dq172 bw_cX12_lands_2 15 rfl rfl
theorem bw_cX12_sure_0 : dq_w cX12_sure 0 [42, 3, 181, 0, 3, 2, 60, 3, 61, 3, 62, 29, 17, 16, 0, 162, 0, 72, 42, 29, 182, 1, 140, 153, 0, 6, 167] = true := by decide +kernel
theorem dX12_sure_0 : decode cX12_sure 0 = .ok (.aload_n 0, 1) := dq42 bw_cX12_sure_0 0 rfl rfl
theorem dX12_sure_1 : decode cX12_sure 1 = .ok (.iconst 0, 1) := dq3 bw_cX12_sure_0 1 rfl rfl
theorem dX12_sure_2 : decode cX12_sure 2 = .ok (.putfield 3, 3) := dq181 bw_cX12_sure_0 2 rfl rfl rfl
theorem dX12_sure_5 : decode cX12_sure 5 = .ok (.iconst (-1), 1) := dq2 bw_cX12_sure_0 5 rfl rfl
theorem dX12_sure_6 : decode cX12_sure 6 = .ok (.istore_n 1, 1) := dq60 bw_cX12_sure_0 6 rfl rfl
theorem dX12_sure_7 : decode cX12_sure 7 = .ok (.iconst 0, 1) := dq3 bw_cX12_sure_0 7 rfl rfl
theorem dX12_sure_8 : decode cX12_sure 8 = .ok (.istore_n 2, 1) := dq61 bw_cX12_sure_0 8 rfl rfl
theorem dX12_sure_9 : decode cX12_sure 9 = .ok (.iconst 0, 1) := dq3 bw_cX12_sure_0 9 rfl rfl
theorem dX12_sure_10 : decode cX12_sure 10 = .ok (.istore_n 3, 1) := dq62 bw_cX12_sure_0 10 rfl rfl
theorem dX12_sure_11 : decode cX12_sure 11 = .ok (.iload_n 3, 1) := dq29 bw_cX12_sure_0 11 rfl rfl
theorem dX12_sure_12 : decode cX12_sure 12 = .ok (.sipush 4096, 3) := dq17 bw_cX12_sure_0 12 rfl rfl rfl
theorem dX12_sure_15 : decode cX12_sure 15 = .ok (.if_icmp .ge 72, 3) := dq162 bw_cX12_sure_0 15 rfl rfl rfl
theorem dX12_sure_18 : decode cX12_sure 18 = .ok (.aload_n 0, 1) := dq42 bw_cX12_sure_0 18 rfl rfl
theorem dX12_sure_19 : decode cX12_sure 19 = .ok (.iload_n 3, 1) := dq29 bw_cX12_sure_0 19 rfl rfl
theorem dX12_sure_20 : decode cX12_sure 20 = .ok (.invokevirtual 396, 3) := dq182 bw_cX12_sure_0 20 rfl rfl rfl
theorem dX12_sure_23 : decode cX12_sure 23 = .ok (.ifCond .eq 6, 3) := dq153 bw_cX12_sure_0 23 rfl rfl rfl
theorem bw_cX12_sure_1 : dq_w cX12_sure 24 [0, 6, 167, 0, 55, 27, 156, 0, 7, 29, 167, 0, 4, 27, 60, 3, 54, 4, 21, 4, 16, 6, 162, 0, 35, 28, 29] = true := by decide +kernel
theorem dX12_sure_26 : decode cX12_sure 26 = .ok (.goto 55, 3) := dq167 bw_cX12_sure_1 2 rfl rfl rfl
theorem dX12_sure_29 : decode cX12_sure 29 = .ok (.iload_n 1, 1) := dq27 bw_cX12_sure_1 5 rfl rfl
theorem dX12_sure_30 : decode cX12_sure 30 = .ok (.ifCond .ge 7, 3) := dq156 bw_cX12_sure_1 6 rfl rfl rfl
theorem dX12_sure_33 : decode cX12_sure 33 = .ok (.iload_n 3, 1) := dq29 bw_cX12_sure_1 9 rfl rfl
theorem dX12_sure_34 : decode cX12_sure 34 = .ok (.goto 4, 3) := dq167 bw_cX12_sure_1 10 rfl rfl rfl
theorem dX12_sure_37 : decode cX12_sure 37 = .ok (.iload_n 1, 1) := dq27 bw_cX12_sure_1 13 rfl rfl
theorem dX12_sure_38 : decode cX12_sure 38 = .ok (.istore_n 1, 1) := dq60 bw_cX12_sure_1 14 rfl rfl
theorem dX12_sure_39 : decode cX12_sure 39 = .ok (.iconst 0, 1) := dq3 bw_cX12_sure_1 15 rfl rfl
theorem dX12_sure_40 : decode cX12_sure 40 = .ok (.istore 4, 2) := dq54 bw_cX12_sure_1 16 rfl rfl
theorem dX12_sure_42 : decode cX12_sure 42 = .ok (.iload 4, 2) := dq21 bw_cX12_sure_1 18 rfl rfl
theorem dX12_sure_44 : decode cX12_sure 44 = .ok (.bipush 6, 2) := dq16 bw_cX12_sure_1 20 rfl rfl rfl
theorem dX12_sure_46 : decode cX12_sure 46 = .ok (.if_icmp .ge 35, 3) := dq162 bw_cX12_sure_1 22 rfl rfl rfl
theorem bw_cX12_sure_2 : dq_w cX12_sure 48 [35, 28, 29, 21, 4, 184, 1, 134, 27, 21, 4, 184, 1, 134, 159, 0, 10, 4, 21, 4, 120, 167, 0, 4, 3, 128, 61] = true := by decide +kernel
theorem dX12_sure_49 : decode cX12_sure 49 = .ok (.iload_n 2, 1) := dq28 bw_cX12_sure_2 1 rfl rfl
theorem dX12_sure_50 : decode cX12_sure 50 = .ok (.iload_n 3, 1) := dq29 bw_cX12_sure_2 2 rfl rfl
theorem dX12_sure_51 : decode cX12_sure 51 = .ok (.iload 4, 2) := dq21 bw_cX12_sure_2 3 rfl rfl
theorem dX12_sure_53 : decode cX12_sure 53 = .ok (.invokestatic 390, 3) := dq184 bw_cX12_sure_2 5 rfl rfl rfl
theorem dX12_sure_56 : decode cX12_sure 56 = .ok (.iload_n 1, 1) := dq27 bw_cX12_sure_2 8 rfl rfl
theorem dX12_sure_57 : decode cX12_sure 57 = .ok (.iload 4, 2) := dq21 bw_cX12_sure_2 9 rfl rfl
theorem dX12_sure_59 : decode cX12_sure 59 = .ok (.invokestatic 390, 3) := dq184 bw_cX12_sure_2 11 rfl rfl rfl
theorem dX12_sure_62 : decode cX12_sure 62 = .ok (.if_icmp .eq 10, 3) := dq159 bw_cX12_sure_2 14 rfl rfl rfl
theorem dX12_sure_65 : decode cX12_sure 65 = .ok (.iconst 1, 1) := dq4 bw_cX12_sure_2 17 rfl rfl
theorem dX12_sure_66 : decode cX12_sure 66 = .ok (.iload 4, 2) := dq21 bw_cX12_sure_2 18 rfl rfl
theorem dX12_sure_68 : decode cX12_sure 68 = .ok (.ishl, 1) := dq120 bw_cX12_sure_2 20 rfl rfl
theorem dX12_sure_69 : decode cX12_sure 69 = .ok (.goto 4, 3) := dq167 bw_cX12_sure_2 21 rfl rfl rfl
theorem bw_cX12_sure_3 : dq_w cX12_sure 72 [3, 128, 61, 132, 4, 1, 167, 255, 220, 132, 3, 1, 167, 255, 183, 42, 3, 181, 0, 11, 27, 156, 0, 5, 3, 172, 3] = true := by decide +kernel
theorem dX12_sure_72 : decode cX12_sure 72 = .ok (.iconst 0, 1) := dq3 bw_cX12_sure_3 0 rfl rfl
theorem dX12_sure_73 : decode cX12_sure 73 = .ok (.ior, 1) := dq128 bw_cX12_sure_3 1 rfl rfl
theorem dX12_sure_74 : decode cX12_sure 74 = .ok (.istore_n 2, 1) := dq61 bw_cX12_sure_3 2 rfl rfl
theorem dX12_sure_75 : decode cX12_sure 75 = .ok (.iinc 4 1, 3) := dq132 bw_cX12_sure_3 3 rfl rfl rfl
theorem dX12_sure_78 : decode cX12_sure 78 = .ok (.goto (-36), 3) := dq167 bw_cX12_sure_3 6 rfl rfl rfl
theorem dX12_sure_81 : decode cX12_sure 81 = .ok (.iinc 3 1, 3) := dq132 bw_cX12_sure_3 9 rfl rfl rfl
theorem dX12_sure_84 : decode cX12_sure 84 = .ok (.goto (-73), 3) := dq167 bw_cX12_sure_3 12 rfl rfl rfl
theorem dX12_sure_87 : decode cX12_sure 87 = .ok (.aload_n 0, 1) := dq42 bw_cX12_sure_3 15 rfl rfl
theorem dX12_sure_88 : decode cX12_sure 88 = .ok (.iconst 0, 1) := dq3 bw_cX12_sure_3 16 rfl rfl
theorem dX12_sure_89 : decode cX12_sure 89 = .ok (.putfield 11, 3) := dq181 bw_cX12_sure_3 17 rfl rfl rfl
theorem dX12_sure_92 : decode cX12_sure 92 = .ok (.iload_n 1, 1) := dq27 bw_cX12_sure_3 20 rfl rfl
theorem dX12_sure_93 : decode cX12_sure 93 = .ok (.ifCond .ge 5, 3) := dq156 bw_cX12_sure_3 21 rfl rfl rfl
theorem bw_cX12_sure_4 : dq_w cX12_sure 96 [3, 172, 3, 62, 3, 54, 4, 21, 4, 16, 6, 162, 0, 35, 28, 21, 4, 184, 0, 144, 154, 0, 20, 29, 4, 21, 4] = true := by decide +kernel
theorem dX12_sure_96 : decode cX12_sure 96 = .ok (.iconst 0, 1) := dq3 bw_cX12_sure_4 0 rfl rfl
theorem dX12_sure_97 : decode cX12_sure 97 = .ok (.ireturn, 1) := dq172 bw_cX12_sure_4 1 rfl rfl
theorem dX12_sure_98 : decode cX12_sure 98 = .ok (.iconst 0, 1) := dq3 bw_cX12_sure_4 2 rfl rfl
theorem dX12_sure_99 : decode cX12_sure 99 = .ok (.istore_n 3, 1) := dq62 bw_cX12_sure_4 3 rfl rfl
theorem dX12_sure_100 : decode cX12_sure 100 = .ok (.iconst 0, 1) := dq3 bw_cX12_sure_4 4 rfl rfl
theorem dX12_sure_101 : decode cX12_sure 101 = .ok (.istore 4, 2) := dq54 bw_cX12_sure_4 5 rfl rfl
theorem dX12_sure_103 : decode cX12_sure 103 = .ok (.iload 4, 2) := dq21 bw_cX12_sure_4 7 rfl rfl
theorem dX12_sure_105 : decode cX12_sure 105 = .ok (.bipush 6, 2) := dq16 bw_cX12_sure_4 9 rfl rfl rfl
theorem dX12_sure_107 : decode cX12_sure 107 = .ok (.if_icmp .ge 35, 3) := dq162 bw_cX12_sure_4 11 rfl rfl rfl
theorem dX12_sure_110 : decode cX12_sure 110 = .ok (.iload_n 2, 1) := dq28 bw_cX12_sure_4 14 rfl rfl
theorem dX12_sure_111 : decode cX12_sure 111 = .ok (.iload 4, 2) := dq21 bw_cX12_sure_4 15 rfl rfl
theorem dX12_sure_113 : decode cX12_sure 113 = .ok (.invokestatic 144, 3) := dq184 bw_cX12_sure_4 17 rfl rfl rfl
theorem dX12_sure_116 : decode cX12_sure 116 = .ok (.ifCond .ne 20, 3) := dq154 bw_cX12_sure_4 20 rfl rfl rfl
theorem dX12_sure_119 : decode cX12_sure 119 = .ok (.iload_n 3, 1) := dq29 bw_cX12_sure_4 23 rfl rfl
theorem bw_cX12_sure_5 : dq_w cX12_sure 120 [4, 21, 4, 120, 128, 62, 42, 27, 21, 4, 184, 1, 134, 182, 0, 229, 132, 4, 1, 167, 255, 220, 29, 172] = true := by decide +kernel
theorem dX12_sure_120 : decode cX12_sure 120 = .ok (.iconst 1, 1) := dq4 bw_cX12_sure_5 0 rfl rfl
theorem dX12_sure_121 : decode cX12_sure 121 = .ok (.iload 4, 2) := dq21 bw_cX12_sure_5 1 rfl rfl
theorem dX12_sure_123 : decode cX12_sure 123 = .ok (.ishl, 1) := dq120 bw_cX12_sure_5 3 rfl rfl
theorem dX12_sure_124 : decode cX12_sure 124 = .ok (.ior, 1) := dq128 bw_cX12_sure_5 4 rfl rfl
theorem dX12_sure_125 : decode cX12_sure 125 = .ok (.istore_n 3, 1) := dq62 bw_cX12_sure_5 5 rfl rfl
theorem dX12_sure_126 : decode cX12_sure 126 = .ok (.aload_n 0, 1) := dq42 bw_cX12_sure_5 6 rfl rfl
theorem dX12_sure_127 : decode cX12_sure 127 = .ok (.iload_n 1, 1) := dq27 bw_cX12_sure_5 7 rfl rfl
theorem dX12_sure_128 : decode cX12_sure 128 = .ok (.iload 4, 2) := dq21 bw_cX12_sure_5 8 rfl rfl
theorem dX12_sure_130 : decode cX12_sure 130 = .ok (.invokestatic 390, 3) := dq184 bw_cX12_sure_5 10 rfl rfl rfl
theorem dX12_sure_133 : decode cX12_sure 133 = .ok (.invokevirtual 229, 3) := dq182 bw_cX12_sure_5 13 rfl rfl rfl
theorem dX12_sure_136 : decode cX12_sure 136 = .ok (.iinc 4 1, 3) := dq132 bw_cX12_sure_5 16 rfl rfl rfl
theorem dX12_sure_139 : decode cX12_sure 139 = .ok (.goto (-36), 3) := dq167 bw_cX12_sure_5 19 rfl rfl rfl
theorem dX12_sure_142 : decode cX12_sure 142 = .ok (.iload_n 3, 1) := dq29 bw_cX12_sure_5 22 rfl rfl
theorem dX12_sure_143 : decode cX12_sure 143 = .ok (.ireturn, 1) := dq172 bw_cX12_sure_5 23 rfl rfl
theorem bw_cX12_next_0 : dq_w cX12_next 0 [42, 3, 181, 0, 3, 16, 254, 60, 3, 61, 3, 62, 29, 42, 180, 0, 21, 162, 0, 135, 3, 54, 4, 21, 4, 16, 7] = true := by decide +kernel
theorem dX12_next_0 : decode cX12_next 0 = .ok (.aload_n 0, 1) := dq42 bw_cX12_next_0 0 rfl rfl
theorem dX12_next_1 : decode cX12_next 1 = .ok (.iconst 0, 1) := dq3 bw_cX12_next_0 1 rfl rfl
theorem dX12_next_2 : decode cX12_next 2 = .ok (.putfield 3, 3) := dq181 bw_cX12_next_0 2 rfl rfl rfl
theorem dX12_next_5 : decode cX12_next 5 = .ok (.bipush (-2), 2) := dq16 bw_cX12_next_0 5 rfl rfl rfl
theorem dX12_next_7 : decode cX12_next 7 = .ok (.istore_n 1, 1) := dq60 bw_cX12_next_0 7 rfl rfl
theorem dX12_next_8 : decode cX12_next 8 = .ok (.iconst 0, 1) := dq3 bw_cX12_next_0 8 rfl rfl
theorem dX12_next_9 : decode cX12_next 9 = .ok (.istore_n 2, 1) := dq61 bw_cX12_next_0 9 rfl rfl
theorem dX12_next_10 : decode cX12_next 10 = .ok (.iconst 0, 1) := dq3 bw_cX12_next_0 10 rfl rfl
theorem dX12_next_11 : decode cX12_next 11 = .ok (.istore_n 3, 1) := dq62 bw_cX12_next_0 11 rfl rfl
theorem dX12_next_12 : decode cX12_next 12 = .ok (.iload_n 3, 1) := dq29 bw_cX12_next_0 12 rfl rfl
theorem dX12_next_13 : decode cX12_next 13 = .ok (.aload_n 0, 1) := dq42 bw_cX12_next_0 13 rfl rfl
theorem dX12_next_14 : decode cX12_next 14 = .ok (.getfield 21, 3) := dq180 bw_cX12_next_0 14 rfl rfl rfl
theorem dX12_next_17 : decode cX12_next 17 = .ok (.if_icmp .ge 135, 3) := dq162 bw_cX12_next_0 17 rfl rfl rfl
theorem dX12_next_20 : decode cX12_next 20 = .ok (.iconst 0, 1) := dq3 bw_cX12_next_0 20 rfl rfl
theorem dX12_next_21 : decode cX12_next 21 = .ok (.istore 4, 2) := dq54 bw_cX12_next_0 21 rfl rfl
theorem dX12_next_23 : decode cX12_next 23 = .ok (.iload 4, 2) := dq21 bw_cX12_next_0 23 rfl rfl
theorem bw_cX12_next_1 : dq_w cX12_next 24 [4, 16, 7, 162, 0, 17, 42, 180, 1, 146, 21, 4, 3, 79, 132, 4, 1, 167, 255, 238, 3, 54, 4, 21, 4, 17, 16] = true := by decide +kernel
theorem dX12_next_25 : decode cX12_next 25 = .ok (.bipush 7, 2) := dq16 bw_cX12_next_1 1 rfl rfl rfl
theorem dX12_next_27 : decode cX12_next 27 = .ok (.if_icmp .ge 17, 3) := dq162 bw_cX12_next_1 3 rfl rfl rfl
theorem dX12_next_30 : decode cX12_next 30 = .ok (.aload_n 0, 1) := dq42 bw_cX12_next_1 6 rfl rfl
theorem dX12_next_31 : decode cX12_next 31 = .ok (.getfield 402, 3) := dq180 bw_cX12_next_1 7 rfl rfl rfl
theorem dX12_next_34 : decode cX12_next 34 = .ok (.iload 4, 2) := dq21 bw_cX12_next_1 10 rfl rfl
theorem dX12_next_36 : decode cX12_next 36 = .ok (.iconst 0, 1) := dq3 bw_cX12_next_1 12 rfl rfl
theorem dX12_next_37 : decode cX12_next 37 = .ok (.iastore, 1) := dq79 bw_cX12_next_1 13 rfl rfl
theorem dX12_next_38 : decode cX12_next 38 = .ok (.iinc 4 1, 3) := dq132 bw_cX12_next_1 14 rfl rfl rfl
theorem dX12_next_41 : decode cX12_next 41 = .ok (.goto (-18), 3) := dq167 bw_cX12_next_1 17 rfl rfl rfl
theorem dX12_next_44 : decode cX12_next 44 = .ok (.iconst 0, 1) := dq3 bw_cX12_next_1 20 rfl rfl
theorem dX12_next_45 : decode cX12_next 45 = .ok (.istore 4, 2) := dq54 bw_cX12_next_1 21 rfl rfl
theorem dX12_next_47 : decode cX12_next 47 = .ok (.iload 4, 2) := dq21 bw_cX12_next_1 23 rfl rfl
theorem bw_cX12_next_2 : dq_w cX12_next 48 [4, 17, 16, 0, 162, 0, 41, 42, 180, 1, 146, 42, 21, 4, 29, 182, 1, 137, 92, 46, 42, 21, 4, 182, 1, 140, 154] = true := by decide +kernel
theorem dX12_next_49 : decode cX12_next 49 = .ok (.sipush 4096, 3) := dq17 bw_cX12_next_2 1 rfl rfl rfl
theorem dX12_next_52 : decode cX12_next 52 = .ok (.if_icmp .ge 41, 3) := dq162 bw_cX12_next_2 4 rfl rfl rfl
theorem dX12_next_55 : decode cX12_next 55 = .ok (.aload_n 0, 1) := dq42 bw_cX12_next_2 7 rfl rfl
theorem dX12_next_56 : decode cX12_next 56 = .ok (.getfield 402, 3) := dq180 bw_cX12_next_2 8 rfl rfl rfl
theorem dX12_next_59 : decode cX12_next 59 = .ok (.aload_n 0, 1) := dq42 bw_cX12_next_2 11 rfl rfl
theorem dX12_next_60 : decode cX12_next 60 = .ok (.iload 4, 2) := dq21 bw_cX12_next_2 12 rfl rfl
theorem dX12_next_62 : decode cX12_next 62 = .ok (.iload_n 3, 1) := dq29 bw_cX12_next_2 14 rfl rfl
theorem dX12_next_63 : decode cX12_next 63 = .ok (.invokevirtual 393, 3) := dq182 bw_cX12_next_2 15 rfl rfl rfl
theorem dX12_next_66 : decode cX12_next 66 = .ok (.dup2, 1) := dq92 bw_cX12_next_2 18 rfl rfl
theorem dX12_next_67 : decode cX12_next 67 = .ok (.iaload, 1) := dq46 bw_cX12_next_2 19 rfl rfl
theorem dX12_next_68 : decode cX12_next 68 = .ok (.aload_n 0, 1) := dq42 bw_cX12_next_2 20 rfl rfl
theorem dX12_next_69 : decode cX12_next 69 = .ok (.iload 4, 2) := dq21 bw_cX12_next_2 21 rfl rfl
theorem dX12_next_71 : decode cX12_next 71 = .ok (.invokevirtual 396, 3) := dq182 bw_cX12_next_2 23 rfl rfl rfl
theorem bw_cX12_next_3 : dq_w cX12_next 72 [1, 140, 154, 0, 7, 4, 167, 0, 4, 3, 184, 0, 42, 96, 79, 132, 4, 1, 167, 255, 213, 3, 54, 4, 3, 54, 5] = true := by decide +kernel
theorem dX12_next_74 : decode cX12_next 74 = .ok (.ifCond .ne 7, 3) := dq154 bw_cX12_next_3 2 rfl rfl rfl
theorem dX12_next_77 : decode cX12_next 77 = .ok (.iconst 1, 1) := dq4 bw_cX12_next_3 5 rfl rfl
theorem dX12_next_78 : decode cX12_next 78 = .ok (.goto 4, 3) := dq167 bw_cX12_next_3 6 rfl rfl rfl
theorem dX12_next_81 : decode cX12_next 81 = .ok (.iconst 0, 1) := dq3 bw_cX12_next_3 9 rfl rfl
theorem dX12_next_82 : decode cX12_next 82 = .ok (.invokestatic 42, 3) := dq184 bw_cX12_next_3 10 rfl rfl rfl
theorem dX12_next_85 : decode cX12_next 85 = .ok (.iadd, 1) := dq96 bw_cX12_next_3 13 rfl rfl
theorem dX12_next_86 : decode cX12_next 86 = .ok (.iastore, 1) := dq79 bw_cX12_next_3 14 rfl rfl
theorem dX12_next_87 : decode cX12_next 87 = .ok (.iinc 4 1, 3) := dq132 bw_cX12_next_3 15 rfl rfl rfl
theorem dX12_next_90 : decode cX12_next 90 = .ok (.goto (-43), 3) := dq167 bw_cX12_next_3 18 rfl rfl rfl
theorem dX12_next_93 : decode cX12_next 93 = .ok (.iconst 0, 1) := dq3 bw_cX12_next_3 21 rfl rfl
theorem dX12_next_94 : decode cX12_next 94 = .ok (.istore 4, 2) := dq54 bw_cX12_next_3 22 rfl rfl
theorem bw_cX12_next_4 : dq_w cX12_next 96 [3, 54, 5, 21, 5, 16, 7, 162, 0, 23, 21, 4, 42, 180, 1, 146, 21, 5, 46, 184, 0, 174, 54, 4, 132, 5, 1] = true := by decide +kernel
theorem dX12_next_96 : decode cX12_next 96 = .ok (.iconst 0, 1) := dq3 bw_cX12_next_4 0 rfl rfl
theorem dX12_next_97 : decode cX12_next 97 = .ok (.istore 5, 2) := dq54 bw_cX12_next_4 1 rfl rfl
theorem dX12_next_99 : decode cX12_next 99 = .ok (.iload 5, 2) := dq21 bw_cX12_next_4 3 rfl rfl
theorem dX12_next_101 : decode cX12_next 101 = .ok (.bipush 7, 2) := dq16 bw_cX12_next_4 5 rfl rfl rfl
theorem dX12_next_103 : decode cX12_next 103 = .ok (.if_icmp .ge 23, 3) := dq162 bw_cX12_next_4 7 rfl rfl rfl
theorem dX12_next_106 : decode cX12_next 106 = .ok (.iload 4, 2) := dq21 bw_cX12_next_4 10 rfl rfl
theorem dX12_next_108 : decode cX12_next 108 = .ok (.aload_n 0, 1) := dq42 bw_cX12_next_4 12 rfl rfl
theorem dX12_next_109 : decode cX12_next 109 = .ok (.getfield 402, 3) := dq180 bw_cX12_next_4 13 rfl rfl rfl
theorem dX12_next_112 : decode cX12_next 112 = .ok (.iload 5, 2) := dq21 bw_cX12_next_4 16 rfl rfl
theorem dX12_next_114 : decode cX12_next 114 = .ok (.iaload, 1) := dq46 bw_cX12_next_4 18 rfl rfl
theorem dX12_next_115 : decode cX12_next 115 = .ok (.invokestatic 174, 3) := dq184 bw_cX12_next_4 19 rfl rfl rfl
theorem dX12_next_118 : decode cX12_next 118 = .ok (.istore 4, 2) := dq54 bw_cX12_next_4 22 rfl rfl
theorem bw_cX12_next_5 : dq_w cX12_next 120 [132, 5, 1, 167, 255, 232, 21, 4, 158, 0, 18, 27, 155, 0, 9, 21, 4, 28, 162, 0, 8, 29, 60, 21, 4, 61, 132] = true := by decide +kernel
theorem dX12_next_120 : decode cX12_next 120 = .ok (.iinc 5 1, 3) := dq132 bw_cX12_next_5 0 rfl rfl rfl
theorem dX12_next_123 : decode cX12_next 123 = .ok (.goto (-24), 3) := dq167 bw_cX12_next_5 3 rfl rfl rfl
theorem dX12_next_126 : decode cX12_next 126 = .ok (.iload 4, 2) := dq21 bw_cX12_next_5 6 rfl rfl
theorem dX12_next_128 : decode cX12_next 128 = .ok (.ifCond .le 18, 3) := dq158 bw_cX12_next_5 8 rfl rfl rfl
theorem dX12_next_131 : decode cX12_next 131 = .ok (.iload_n 1, 1) := dq27 bw_cX12_next_5 11 rfl rfl
theorem dX12_next_132 : decode cX12_next 132 = .ok (.ifCond .lt 9, 3) := dq155 bw_cX12_next_5 12 rfl rfl rfl
theorem dX12_next_135 : decode cX12_next 135 = .ok (.iload 4, 2) := dq21 bw_cX12_next_5 15 rfl rfl
theorem dX12_next_137 : decode cX12_next 137 = .ok (.iload_n 2, 1) := dq28 bw_cX12_next_5 17 rfl rfl
theorem dX12_next_138 : decode cX12_next 138 = .ok (.if_icmp .ge 8, 3) := dq162 bw_cX12_next_5 18 rfl rfl rfl
theorem dX12_next_141 : decode cX12_next 141 = .ok (.iload_n 3, 1) := dq29 bw_cX12_next_5 21 rfl rfl
theorem dX12_next_142 : decode cX12_next 142 = .ok (.istore_n 1, 1) := dq60 bw_cX12_next_5 22 rfl rfl
theorem dX12_next_143 : decode cX12_next 143 = .ok (.iload 4, 2) := dq21 bw_cX12_next_5 23 rfl rfl
theorem bw_cX12_next_6 : dq_w cX12_next 144 [4, 61, 132, 3, 1, 167, 255, 119, 27, 156, 0, 6, 16, 254, 172, 42, 3, 181, 0, 11, 42, 28, 182, 0, 229, 27, 172] = true := by decide +kernel
theorem dX12_next_145 : decode cX12_next 145 = .ok (.istore_n 2, 1) := dq61 bw_cX12_next_6 1 rfl rfl
theorem dX12_next_146 : decode cX12_next 146 = .ok (.iinc 3 1, 3) := dq132 bw_cX12_next_6 2 rfl rfl rfl
theorem dX12_next_149 : decode cX12_next 149 = .ok (.goto (-137), 3) := dq167 bw_cX12_next_6 5 rfl rfl rfl
theorem dX12_next_152 : decode cX12_next 152 = .ok (.iload_n 1, 1) := dq27 bw_cX12_next_6 8 rfl rfl
theorem dX12_next_153 : decode cX12_next 153 = .ok (.ifCond .ge 6, 3) := dq156 bw_cX12_next_6 9 rfl rfl rfl
theorem dX12_next_156 : decode cX12_next 156 = .ok (.bipush (-2), 2) := dq16 bw_cX12_next_6 12 rfl rfl rfl
theorem dX12_next_158 : decode cX12_next 158 = .ok (.ireturn, 1) := dq172 bw_cX12_next_6 14 rfl rfl
theorem dX12_next_159 : decode cX12_next 159 = .ok (.aload_n 0, 1) := dq42 bw_cX12_next_6 15 rfl rfl
theorem dX12_next_160 : decode cX12_next 160 = .ok (.iconst 0, 1) := dq3 bw_cX12_next_6 16 rfl rfl
theorem dX12_next_161 : decode cX12_next 161 = .ok (.putfield 11, 3) := dq181 bw_cX12_next_6 17 rfl rfl rfl
theorem dX12_next_164 : decode cX12_next 164 = .ok (.aload_n 0, 1) := dq42 bw_cX12_next_6 20 rfl rfl
theorem dX12_next_165 : decode cX12_next 165 = .ok (.iload_n 2, 1) := dq28 bw_cX12_next_6 21 rfl rfl
theorem dX12_next_166 : decode cX12_next 166 = .ok (.invokevirtual 229, 3) := dq182 bw_cX12_next_6 22 rfl rfl rfl
theorem bw_cX12_next_7 : dq_w cX12_next 168 [229, 27, 172] = true := by decide +kernel
theorem dX12_next_169 : decode cX12_next 169 = .ok (.iload_n 1, 1) := dq27 bw_cX12_next_7 1 rfl rfl
theorem dX12_next_170 : decode cX12_next 170 = .ok (.ireturn, 1) := dq172 bw_cX12_next_7 2 rfl rfl
theorem bw_cX12_lies_0 : dq_w cX12_lies 0 [42, 3, 181, 0, 3, 4, 42, 180, 1, 125, 120, 4, 100, 60, 3, 61, 28, 17, 16, 0, 162, 0, 47, 42, 28, 182, 1] = true := by decide +kernel
theorem dX12_lies_0 : decode cX12_lies 0 = .ok (.aload_n 0, 1) := dq42 bw_cX12_lies_0 0 rfl rfl
theorem dX12_lies_1 : decode cX12_lies 1 = .ok (.iconst 0, 1) := dq3 bw_cX12_lies_0 1 rfl rfl
theorem dX12_lies_2 : decode cX12_lies 2 = .ok (.putfield 3, 3) := dq181 bw_cX12_lies_0 2 rfl rfl rfl
theorem dX12_lies_5 : decode cX12_lies 5 = .ok (.iconst 1, 1) := dq4 bw_cX12_lies_0 5 rfl rfl
theorem dX12_lies_6 : decode cX12_lies 6 = .ok (.aload_n 0, 1) := dq42 bw_cX12_lies_0 6 rfl rfl
theorem dX12_lies_7 : decode cX12_lies 7 = .ok (.getfield 381, 3) := dq180 bw_cX12_lies_0 7 rfl rfl rfl
theorem dX12_lies_10 : decode cX12_lies 10 = .ok (.ishl, 1) := dq120 bw_cX12_lies_0 10 rfl rfl
theorem dX12_lies_11 : decode cX12_lies 11 = .ok (.iconst 1, 1) := dq4 bw_cX12_lies_0 11 rfl rfl
theorem dX12_lies_12 : decode cX12_lies 12 = .ok (.isub, 1) := dq100 bw_cX12_lies_0 12 rfl rfl
theorem dX12_lies_13 : decode cX12_lies 13 = .ok (.istore_n 1, 1) := dq60 bw_cX12_lies_0 13 rfl rfl
theorem dX12_lies_14 : decode cX12_lies 14 = .ok (.iconst 0, 1) := dq3 bw_cX12_lies_0 14 rfl rfl
theorem dX12_lies_15 : decode cX12_lies 15 = .ok (.istore_n 2, 1) := dq61 bw_cX12_lies_0 15 rfl rfl
theorem dX12_lies_16 : decode cX12_lies 16 = .ok (.iload_n 2, 1) := dq28 bw_cX12_lies_0 16 rfl rfl
theorem dX12_lies_17 : decode cX12_lies 17 = .ok (.sipush 4096, 3) := dq17 bw_cX12_lies_0 17 rfl rfl rfl
theorem dX12_lies_20 : decode cX12_lies 20 = .ok (.if_icmp .ge 47, 3) := dq162 bw_cX12_lies_0 20 rfl rfl rfl
theorem dX12_lies_23 : decode cX12_lies 23 = .ok (.aload_n 0, 1) := dq42 bw_cX12_lies_0 23 rfl rfl
theorem bw_cX12_lies_1 : dq_w cX12_lies 24 [28, 182, 1, 140, 62, 29, 184, 1, 16, 27, 184, 1, 16, 100, 54, 4, 21, 4, 155, 0, 13, 21, 4, 154, 0, 12, 29] = true := by decide +kernel
theorem dX12_lies_24 : decode cX12_lies 24 = .ok (.iload_n 2, 1) := dq28 bw_cX12_lies_1 0 rfl rfl
theorem dX12_lies_25 : decode cX12_lies 25 = .ok (.invokevirtual 396, 3) := dq182 bw_cX12_lies_1 1 rfl rfl rfl
theorem dX12_lies_28 : decode cX12_lies 28 = .ok (.istore_n 3, 1) := dq62 bw_cX12_lies_1 4 rfl rfl
theorem dX12_lies_29 : decode cX12_lies 29 = .ok (.iload_n 3, 1) := dq29 bw_cX12_lies_1 5 rfl rfl
theorem dX12_lies_30 : decode cX12_lies 30 = .ok (.invokestatic 272, 3) := dq184 bw_cX12_lies_1 6 rfl rfl rfl
theorem dX12_lies_33 : decode cX12_lies 33 = .ok (.iload_n 1, 1) := dq27 bw_cX12_lies_1 9 rfl rfl
theorem dX12_lies_34 : decode cX12_lies 34 = .ok (.invokestatic 272, 3) := dq184 bw_cX12_lies_1 10 rfl rfl rfl
theorem dX12_lies_37 : decode cX12_lies 37 = .ok (.isub, 1) := dq100 bw_cX12_lies_1 13 rfl rfl
theorem dX12_lies_38 : decode cX12_lies 38 = .ok (.istore 4, 2) := dq54 bw_cX12_lies_1 14 rfl rfl
theorem dX12_lies_40 : decode cX12_lies 40 = .ok (.iload 4, 2) := dq21 bw_cX12_lies_1 16 rfl rfl
theorem dX12_lies_42 : decode cX12_lies 42 = .ok (.ifCond .lt 13, 3) := dq155 bw_cX12_lies_1 18 rfl rfl rfl
theorem dX12_lies_45 : decode cX12_lies 45 = .ok (.iload 4, 2) := dq21 bw_cX12_lies_1 21 rfl rfl
theorem dX12_lies_47 : decode cX12_lies 47 = .ok (.ifCond .ne 12, 3) := dq154 bw_cX12_lies_1 23 rfl rfl rfl
theorem bw_cX12_lies_2 : dq_w cX12_lies 48 [0, 12, 29, 27, 162, 0, 7, 29, 167, 0, 4, 27, 60, 132, 2, 1, 167, 255, 208, 42, 3, 181, 0, 11, 42, 27, 182] = true := by decide +kernel
theorem dX12_lies_50 : decode cX12_lies 50 = .ok (.iload_n 3, 1) := dq29 bw_cX12_lies_2 2 rfl rfl
theorem dX12_lies_51 : decode cX12_lies 51 = .ok (.iload_n 1, 1) := dq27 bw_cX12_lies_2 3 rfl rfl
theorem dX12_lies_52 : decode cX12_lies 52 = .ok (.if_icmp .ge 7, 3) := dq162 bw_cX12_lies_2 4 rfl rfl rfl
theorem dX12_lies_55 : decode cX12_lies 55 = .ok (.iload_n 3, 1) := dq29 bw_cX12_lies_2 7 rfl rfl
theorem dX12_lies_56 : decode cX12_lies 56 = .ok (.goto 4, 3) := dq167 bw_cX12_lies_2 8 rfl rfl rfl
theorem dX12_lies_59 : decode cX12_lies 59 = .ok (.iload_n 1, 1) := dq27 bw_cX12_lies_2 11 rfl rfl
theorem dX12_lies_60 : decode cX12_lies 60 = .ok (.istore_n 1, 1) := dq60 bw_cX12_lies_2 12 rfl rfl
theorem dX12_lies_61 : decode cX12_lies 61 = .ok (.iinc 2 1, 3) := dq132 bw_cX12_lies_2 13 rfl rfl rfl
theorem dX12_lies_64 : decode cX12_lies 64 = .ok (.goto (-48), 3) := dq167 bw_cX12_lies_2 16 rfl rfl rfl
theorem dX12_lies_67 : decode cX12_lies 67 = .ok (.aload_n 0, 1) := dq42 bw_cX12_lies_2 19 rfl rfl
theorem dX12_lies_68 : decode cX12_lies 68 = .ok (.iconst 0, 1) := dq3 bw_cX12_lies_2 20 rfl rfl
theorem dX12_lies_69 : decode cX12_lies 69 = .ok (.putfield 11, 3) := dq181 bw_cX12_lies_2 21 rfl rfl rfl
theorem bw_cX12_lies_3 : dq_w cX12_lies 72 [42, 27, 182, 0, 229, 27, 184, 1, 16, 172] = true := by decide +kernel
theorem dX12_lies_72 : decode cX12_lies 72 = .ok (.aload_n 0, 1) := dq42 bw_cX12_lies_3 0 rfl rfl
theorem dX12_lies_73 : decode cX12_lies 73 = .ok (.iload_n 1, 1) := dq27 bw_cX12_lies_3 1 rfl rfl
theorem dX12_lies_74 : decode cX12_lies 74 = .ok (.invokevirtual 229, 3) := dq182 bw_cX12_lies_3 2 rfl rfl rfl
theorem dX12_lies_77 : decode cX12_lies 77 = .ok (.iload_n 1, 1) := dq27 bw_cX12_lies_3 5 rfl rfl
theorem dX12_lies_78 : decode cX12_lies 78 = .ok (.invokestatic 272, 3) := dq184 bw_cX12_lies_3 6 rfl rfl rfl
theorem dX12_lies_81 : decode cX12_lies 81 = .ok (.ireturn, 1) := dq172 bw_cX12_lies_3 9 rfl rfl
theorem bw_cX12_holds_0 : dq_w cX12_holds 0 [3, 61, 28, 17, 16, 0, 162, 0, 21, 42, 28, 182, 1, 140, 27, 126, 154, 0, 5, 4, 172, 132, 2, 1, 167, 255, 234] = true := by decide +kernel
theorem dX12_holds_0 : decode cX12_holds 0 = .ok (.iconst 0, 1) := dq3 bw_cX12_holds_0 0 rfl rfl
theorem dX12_holds_1 : decode cX12_holds 1 = .ok (.istore_n 2, 1) := dq61 bw_cX12_holds_0 1 rfl rfl
theorem dX12_holds_2 : decode cX12_holds 2 = .ok (.iload_n 2, 1) := dq28 bw_cX12_holds_0 2 rfl rfl
theorem dX12_holds_3 : decode cX12_holds 3 = .ok (.sipush 4096, 3) := dq17 bw_cX12_holds_0 3 rfl rfl rfl
theorem dX12_holds_6 : decode cX12_holds 6 = .ok (.if_icmp .ge 21, 3) := dq162 bw_cX12_holds_0 6 rfl rfl rfl
theorem dX12_holds_9 : decode cX12_holds 9 = .ok (.aload_n 0, 1) := dq42 bw_cX12_holds_0 9 rfl rfl
theorem dX12_holds_10 : decode cX12_holds 10 = .ok (.iload_n 2, 1) := dq28 bw_cX12_holds_0 10 rfl rfl
theorem dX12_holds_11 : decode cX12_holds 11 = .ok (.invokevirtual 396, 3) := dq182 bw_cX12_holds_0 11 rfl rfl rfl
theorem dX12_holds_14 : decode cX12_holds 14 = .ok (.iload_n 1, 1) := dq27 bw_cX12_holds_0 14 rfl rfl
theorem dX12_holds_15 : decode cX12_holds 15 = .ok (.iand, 1) := dq126 bw_cX12_holds_0 15 rfl rfl
theorem dX12_holds_16 : decode cX12_holds 16 = .ok (.ifCond .ne 5, 3) := dq154 bw_cX12_holds_0 16 rfl rfl rfl
theorem dX12_holds_19 : decode cX12_holds 19 = .ok (.iconst 1, 1) := dq4 bw_cX12_holds_0 19 rfl rfl
theorem dX12_holds_20 : decode cX12_holds 20 = .ok (.ireturn, 1) := dq172 bw_cX12_holds_0 20 rfl rfl
theorem dX12_holds_21 : decode cX12_holds 21 = .ok (.iinc 2 1, 3) := dq132 bw_cX12_holds_0 21 rfl rfl rfl
theorem bw_cX12_holds_1 : dq_w cX12_holds 24 [167, 255, 234, 3, 172] = true := by decide +kernel
theorem dX12_holds_24 : decode cX12_holds 24 = .ok (.goto (-22), 3) := dq167 bw_cX12_holds_1 0 rfl rfl rfl
theorem dX12_holds_27 : decode cX12_holds 27 = .ok (.iconst 0, 1) := dq3 bw_cX12_holds_1 3 rfl rfl
theorem dX12_holds_28 : decode cX12_holds 28 = .ok (.ireturn, 1) := dq172 bw_cX12_holds_1 4 rfl rfl
theorem bw_cX12_quarrel_0 : dq_w cX12_quarrel 0 [42, 3, 181, 0, 3, 3, 60, 27, 42, 180, 1, 125, 162, 0, 21, 42, 5, 27, 120, 4, 100, 182, 1, 149, 153, 0, 9] = true := by decide +kernel
theorem dX12_quarrel_0 : decode cX12_quarrel 0 = .ok (.aload_n 0, 1) := dq42 bw_cX12_quarrel_0 0 rfl rfl
theorem dX12_quarrel_1 : decode cX12_quarrel 1 = .ok (.iconst 0, 1) := dq3 bw_cX12_quarrel_0 1 rfl rfl
theorem dX12_quarrel_2 : decode cX12_quarrel 2 = .ok (.putfield 3, 3) := dq181 bw_cX12_quarrel_0 2 rfl rfl rfl
theorem dX12_quarrel_5 : decode cX12_quarrel 5 = .ok (.iconst 0, 1) := dq3 bw_cX12_quarrel_0 5 rfl rfl
theorem dX12_quarrel_6 : decode cX12_quarrel 6 = .ok (.istore_n 1, 1) := dq60 bw_cX12_quarrel_0 6 rfl rfl
theorem dX12_quarrel_7 : decode cX12_quarrel 7 = .ok (.iload_n 1, 1) := dq27 bw_cX12_quarrel_0 7 rfl rfl
theorem dX12_quarrel_8 : decode cX12_quarrel 8 = .ok (.aload_n 0, 1) := dq42 bw_cX12_quarrel_0 8 rfl rfl
theorem dX12_quarrel_9 : decode cX12_quarrel 9 = .ok (.getfield 381, 3) := dq180 bw_cX12_quarrel_0 9 rfl rfl rfl
theorem dX12_quarrel_12 : decode cX12_quarrel 12 = .ok (.if_icmp .ge 21, 3) := dq162 bw_cX12_quarrel_0 12 rfl rfl rfl
theorem dX12_quarrel_15 : decode cX12_quarrel 15 = .ok (.aload_n 0, 1) := dq42 bw_cX12_quarrel_0 15 rfl rfl
theorem dX12_quarrel_16 : decode cX12_quarrel 16 = .ok (.iconst 2, 1) := dq5 bw_cX12_quarrel_0 16 rfl rfl
theorem dX12_quarrel_17 : decode cX12_quarrel 17 = .ok (.iload_n 1, 1) := dq27 bw_cX12_quarrel_0 17 rfl rfl
theorem dX12_quarrel_18 : decode cX12_quarrel 18 = .ok (.ishl, 1) := dq120 bw_cX12_quarrel_0 18 rfl rfl
theorem dX12_quarrel_19 : decode cX12_quarrel 19 = .ok (.iconst 1, 1) := dq4 bw_cX12_quarrel_0 19 rfl rfl
theorem dX12_quarrel_20 : decode cX12_quarrel 20 = .ok (.isub, 1) := dq100 bw_cX12_quarrel_0 20 rfl rfl
theorem dX12_quarrel_21 : decode cX12_quarrel 21 = .ok (.invokevirtual 405, 3) := dq182 bw_cX12_quarrel_0 21 rfl rfl rfl
theorem bw_cX12_quarrel_1 : dq_w cX12_quarrel 24 [153, 0, 9, 132, 1, 1, 167, 255, 233, 27, 42, 180, 1, 125, 160, 0, 6, 16, 254, 172, 2, 61, 27, 4, 100, 62, 29] = true := by decide +kernel
theorem dX12_quarrel_24 : decode cX12_quarrel 24 = .ok (.ifCond .eq 9, 3) := dq153 bw_cX12_quarrel_1 0 rfl rfl rfl
theorem dX12_quarrel_27 : decode cX12_quarrel 27 = .ok (.iinc 1 1, 3) := dq132 bw_cX12_quarrel_1 3 rfl rfl rfl
theorem dX12_quarrel_30 : decode cX12_quarrel 30 = .ok (.goto (-23), 3) := dq167 bw_cX12_quarrel_1 6 rfl rfl rfl
theorem dX12_quarrel_33 : decode cX12_quarrel 33 = .ok (.iload_n 1, 1) := dq27 bw_cX12_quarrel_1 9 rfl rfl
theorem dX12_quarrel_34 : decode cX12_quarrel 34 = .ok (.aload_n 0, 1) := dq42 bw_cX12_quarrel_1 10 rfl rfl
theorem dX12_quarrel_35 : decode cX12_quarrel 35 = .ok (.getfield 381, 3) := dq180 bw_cX12_quarrel_1 11 rfl rfl rfl
theorem dX12_quarrel_38 : decode cX12_quarrel 38 = .ok (.if_icmp .ne 6, 3) := dq160 bw_cX12_quarrel_1 14 rfl rfl rfl
theorem dX12_quarrel_41 : decode cX12_quarrel 41 = .ok (.bipush (-2), 2) := dq16 bw_cX12_quarrel_1 17 rfl rfl rfl
theorem dX12_quarrel_43 : decode cX12_quarrel 43 = .ok (.ireturn, 1) := dq172 bw_cX12_quarrel_1 19 rfl rfl
theorem dX12_quarrel_44 : decode cX12_quarrel 44 = .ok (.iconst (-1), 1) := dq2 bw_cX12_quarrel_1 20 rfl rfl
theorem dX12_quarrel_45 : decode cX12_quarrel 45 = .ok (.istore_n 2, 1) := dq61 bw_cX12_quarrel_1 21 rfl rfl
theorem dX12_quarrel_46 : decode cX12_quarrel 46 = .ok (.iload_n 1, 1) := dq27 bw_cX12_quarrel_1 22 rfl rfl
theorem dX12_quarrel_47 : decode cX12_quarrel 47 = .ok (.iconst 1, 1) := dq4 bw_cX12_quarrel_1 23 rfl rfl
theorem bw_cX12_quarrel_2 : dq_w cX12_quarrel 48 [100, 62, 29, 155, 0, 29, 42, 4, 27, 120, 4, 29, 120, 128, 182, 1, 149, 153, 0, 7, 28, 167, 0, 4, 29, 61, 132] = true := by decide +kernel
theorem dX12_quarrel_48 : decode cX12_quarrel 48 = .ok (.isub, 1) := dq100 bw_cX12_quarrel_2 0 rfl rfl
theorem dX12_quarrel_49 : decode cX12_quarrel 49 = .ok (.istore_n 3, 1) := dq62 bw_cX12_quarrel_2 1 rfl rfl
theorem dX12_quarrel_50 : decode cX12_quarrel 50 = .ok (.iload_n 3, 1) := dq29 bw_cX12_quarrel_2 2 rfl rfl
theorem dX12_quarrel_51 : decode cX12_quarrel 51 = .ok (.ifCond .lt 29, 3) := dq155 bw_cX12_quarrel_2 3 rfl rfl rfl
theorem dX12_quarrel_54 : decode cX12_quarrel 54 = .ok (.aload_n 0, 1) := dq42 bw_cX12_quarrel_2 6 rfl rfl
theorem dX12_quarrel_55 : decode cX12_quarrel 55 = .ok (.iconst 1, 1) := dq4 bw_cX12_quarrel_2 7 rfl rfl
theorem dX12_quarrel_56 : decode cX12_quarrel 56 = .ok (.iload_n 1, 1) := dq27 bw_cX12_quarrel_2 8 rfl rfl
theorem dX12_quarrel_57 : decode cX12_quarrel 57 = .ok (.ishl, 1) := dq120 bw_cX12_quarrel_2 9 rfl rfl
theorem dX12_quarrel_58 : decode cX12_quarrel 58 = .ok (.iconst 1, 1) := dq4 bw_cX12_quarrel_2 10 rfl rfl
theorem dX12_quarrel_59 : decode cX12_quarrel 59 = .ok (.iload_n 3, 1) := dq29 bw_cX12_quarrel_2 11 rfl rfl
theorem dX12_quarrel_60 : decode cX12_quarrel 60 = .ok (.ishl, 1) := dq120 bw_cX12_quarrel_2 12 rfl rfl
theorem dX12_quarrel_61 : decode cX12_quarrel 61 = .ok (.ior, 1) := dq128 bw_cX12_quarrel_2 13 rfl rfl
theorem dX12_quarrel_62 : decode cX12_quarrel 62 = .ok (.invokevirtual 405, 3) := dq182 bw_cX12_quarrel_2 14 rfl rfl rfl
theorem dX12_quarrel_65 : decode cX12_quarrel 65 = .ok (.ifCond .eq 7, 3) := dq153 bw_cX12_quarrel_2 17 rfl rfl rfl
theorem dX12_quarrel_68 : decode cX12_quarrel 68 = .ok (.iload_n 2, 1) := dq28 bw_cX12_quarrel_2 20 rfl rfl
theorem dX12_quarrel_69 : decode cX12_quarrel 69 = .ok (.goto 4, 3) := dq167 bw_cX12_quarrel_2 21 rfl rfl rfl
theorem bw_cX12_quarrel_3 : dq_w cX12_quarrel 72 [29, 61, 132, 3, 255, 167, 255, 229, 42, 3, 181, 0, 11, 42, 28, 182, 0, 229, 27, 172] = true := by decide +kernel
theorem dX12_quarrel_72 : decode cX12_quarrel 72 = .ok (.iload_n 3, 1) := dq29 bw_cX12_quarrel_3 0 rfl rfl
theorem dX12_quarrel_73 : decode cX12_quarrel 73 = .ok (.istore_n 2, 1) := dq61 bw_cX12_quarrel_3 1 rfl rfl
theorem dX12_quarrel_74 : decode cX12_quarrel 74 = .ok (.iinc 3 (-1), 3) := dq132 bw_cX12_quarrel_3 2 rfl rfl rfl
theorem dX12_quarrel_77 : decode cX12_quarrel 77 = .ok (.goto (-27), 3) := dq167 bw_cX12_quarrel_3 5 rfl rfl rfl
theorem dX12_quarrel_80 : decode cX12_quarrel 80 = .ok (.aload_n 0, 1) := dq42 bw_cX12_quarrel_3 8 rfl rfl
theorem dX12_quarrel_81 : decode cX12_quarrel 81 = .ok (.iconst 0, 1) := dq3 bw_cX12_quarrel_3 9 rfl rfl
theorem dX12_quarrel_82 : decode cX12_quarrel 82 = .ok (.putfield 11, 3) := dq181 bw_cX12_quarrel_3 10 rfl rfl rfl
theorem dX12_quarrel_85 : decode cX12_quarrel 85 = .ok (.aload_n 0, 1) := dq42 bw_cX12_quarrel_3 13 rfl rfl
theorem dX12_quarrel_86 : decode cX12_quarrel 86 = .ok (.iload_n 2, 1) := dq28 bw_cX12_quarrel_3 14 rfl rfl
theorem dX12_quarrel_87 : decode cX12_quarrel 87 = .ok (.invokevirtual 229, 3) := dq182 bw_cX12_quarrel_3 15 rfl rfl rfl
theorem dX12_quarrel_90 : decode cX12_quarrel 90 = .ok (.iload_n 1, 1) := dq27 bw_cX12_quarrel_3 18 rfl rfl
theorem dX12_quarrel_91 : decode cX12_quarrel 91 = .ok (.ireturn, 1) := dq172 bw_cX12_quarrel_3 19 rfl rfl
theorem bw_cX12_keep_0 : dq_w cX12_keep 0 [42, 3, 181, 0, 3, 27, 133, 9, 20, 1, 152, 184, 0, 17, 154, 0, 5, 3, 172, 42, 180, 1, 154, 27, 4, 84, 16] = true := by decide +kernel
theorem dX12_keep_0 : decode cX12_keep 0 = .ok (.aload_n 0, 1) := dq42 bw_cX12_keep_0 0 rfl rfl
theorem dX12_keep_1 : decode cX12_keep 1 = .ok (.iconst 0, 1) := dq3 bw_cX12_keep_0 1 rfl rfl
theorem dX12_keep_2 : decode cX12_keep 2 = .ok (.putfield 3, 3) := dq181 bw_cX12_keep_0 2 rfl rfl rfl
theorem dX12_keep_5 : decode cX12_keep 5 = .ok (.iload_n 1, 1) := dq27 bw_cX12_keep_0 5 rfl rfl
theorem dX12_keep_6 : decode cX12_keep 6 = .ok (.i2l, 1) := dq133 bw_cX12_keep_0 6 rfl rfl
theorem dX12_keep_7 : decode cX12_keep 7 = .ok (.lconst 0, 1) := dq9 bw_cX12_keep_0 7 rfl rfl
theorem dX12_keep_8 : decode cX12_keep 8 = .ok (.ldc2_w 408, 3) := dq20 bw_cX12_keep_0 8 rfl rfl rfl
theorem dX12_keep_11 : decode cX12_keep 11 = .ok (.invokestatic 17, 3) := dq184 bw_cX12_keep_0 11 rfl rfl rfl
theorem dX12_keep_14 : decode cX12_keep 14 = .ok (.ifCond .ne 5, 3) := dq154 bw_cX12_keep_0 14 rfl rfl rfl
theorem dX12_keep_17 : decode cX12_keep 17 = .ok (.iconst 0, 1) := dq3 bw_cX12_keep_0 17 rfl rfl
theorem dX12_keep_18 : decode cX12_keep 18 = .ok (.ireturn, 1) := dq172 bw_cX12_keep_0 18 rfl rfl
theorem dX12_keep_19 : decode cX12_keep 19 = .ok (.aload_n 0, 1) := dq42 bw_cX12_keep_0 19 rfl rfl
theorem dX12_keep_20 : decode cX12_keep 20 = .ok (.getfield 410, 3) := dq180 bw_cX12_keep_0 20 rfl rfl rfl
theorem dX12_keep_23 : decode cX12_keep 23 = .ok (.iload_n 1, 1) := dq27 bw_cX12_keep_0 23 rfl rfl
theorem bw_cX12_keep_1 : dq_w cX12_keep 24 [4, 84, 16, 16, 27, 104, 61, 42, 180, 1, 158, 28, 42, 180, 0, 177, 79, 42, 180, 1, 158, 28, 4, 96, 42, 180, 0] = true := by decide +kernel
theorem dX12_keep_24 : decode cX12_keep 24 = .ok (.iconst 1, 1) := dq4 bw_cX12_keep_1 0 rfl rfl
theorem dX12_keep_25 : decode cX12_keep 25 = .ok (.bastore, 1) := dq84 bw_cX12_keep_1 1 rfl rfl
theorem dX12_keep_26 : decode cX12_keep 26 = .ok (.bipush 16, 2) := dq16 bw_cX12_keep_1 2 rfl rfl rfl
theorem dX12_keep_28 : decode cX12_keep 28 = .ok (.iload_n 1, 1) := dq27 bw_cX12_keep_1 4 rfl rfl
theorem dX12_keep_29 : decode cX12_keep 29 = .ok (.imul, 1) := dq104 bw_cX12_keep_1 5 rfl rfl
theorem dX12_keep_30 : decode cX12_keep 30 = .ok (.istore_n 2, 1) := dq61 bw_cX12_keep_1 6 rfl rfl
theorem dX12_keep_31 : decode cX12_keep 31 = .ok (.aload_n 0, 1) := dq42 bw_cX12_keep_1 7 rfl rfl
theorem dX12_keep_32 : decode cX12_keep 32 = .ok (.getfield 414, 3) := dq180 bw_cX12_keep_1 8 rfl rfl rfl
theorem dX12_keep_35 : decode cX12_keep 35 = .ok (.iload_n 2, 1) := dq28 bw_cX12_keep_1 11 rfl rfl
theorem dX12_keep_36 : decode cX12_keep 36 = .ok (.aload_n 0, 1) := dq42 bw_cX12_keep_1 12 rfl rfl
theorem dX12_keep_37 : decode cX12_keep 37 = .ok (.getfield 177, 3) := dq180 bw_cX12_keep_1 13 rfl rfl rfl
theorem dX12_keep_40 : decode cX12_keep 40 = .ok (.iastore, 1) := dq79 bw_cX12_keep_1 16 rfl rfl
theorem dX12_keep_41 : decode cX12_keep 41 = .ok (.aload_n 0, 1) := dq42 bw_cX12_keep_1 17 rfl rfl
theorem dX12_keep_42 : decode cX12_keep 42 = .ok (.getfield 414, 3) := dq180 bw_cX12_keep_1 18 rfl rfl rfl
theorem dX12_keep_45 : decode cX12_keep 45 = .ok (.iload_n 2, 1) := dq28 bw_cX12_keep_1 21 rfl rfl
theorem dX12_keep_46 : decode cX12_keep 46 = .ok (.iconst 1, 1) := dq4 bw_cX12_keep_1 22 rfl rfl
theorem dX12_keep_47 : decode cX12_keep 47 = .ok (.iadd, 1) := dq96 bw_cX12_keep_1 23 rfl rfl
theorem bw_cX12_keep_2 : dq_w cX12_keep 48 [42, 180, 0, 148, 79, 3, 62, 29, 16, 14, 162, 0, 37, 42, 180, 1, 158, 28, 5, 96, 29, 96, 29, 42, 180, 0, 21] = true := by decide +kernel
theorem dX12_keep_48 : decode cX12_keep 48 = .ok (.aload_n 0, 1) := dq42 bw_cX12_keep_2 0 rfl rfl
theorem dX12_keep_49 : decode cX12_keep 49 = .ok (.getfield 148, 3) := dq180 bw_cX12_keep_2 1 rfl rfl rfl
theorem dX12_keep_52 : decode cX12_keep 52 = .ok (.iastore, 1) := dq79 bw_cX12_keep_2 4 rfl rfl
theorem dX12_keep_53 : decode cX12_keep 53 = .ok (.iconst 0, 1) := dq3 bw_cX12_keep_2 5 rfl rfl
theorem dX12_keep_54 : decode cX12_keep 54 = .ok (.istore_n 3, 1) := dq62 bw_cX12_keep_2 6 rfl rfl
theorem dX12_keep_55 : decode cX12_keep 55 = .ok (.iload_n 3, 1) := dq29 bw_cX12_keep_2 7 rfl rfl
theorem dX12_keep_56 : decode cX12_keep 56 = .ok (.bipush 14, 2) := dq16 bw_cX12_keep_2 8 rfl rfl rfl
theorem dX12_keep_58 : decode cX12_keep 58 = .ok (.if_icmp .ge 37, 3) := dq162 bw_cX12_keep_2 10 rfl rfl rfl
theorem dX12_keep_61 : decode cX12_keep 61 = .ok (.aload_n 0, 1) := dq42 bw_cX12_keep_2 13 rfl rfl
theorem dX12_keep_62 : decode cX12_keep 62 = .ok (.getfield 414, 3) := dq180 bw_cX12_keep_2 14 rfl rfl rfl
theorem dX12_keep_65 : decode cX12_keep 65 = .ok (.iload_n 2, 1) := dq28 bw_cX12_keep_2 17 rfl rfl
theorem dX12_keep_66 : decode cX12_keep 66 = .ok (.iconst 2, 1) := dq5 bw_cX12_keep_2 18 rfl rfl
theorem dX12_keep_67 : decode cX12_keep 67 = .ok (.iadd, 1) := dq96 bw_cX12_keep_2 19 rfl rfl
theorem dX12_keep_68 : decode cX12_keep 68 = .ok (.iload_n 3, 1) := dq29 bw_cX12_keep_2 20 rfl rfl
theorem dX12_keep_69 : decode cX12_keep 69 = .ok (.iadd, 1) := dq96 bw_cX12_keep_2 21 rfl rfl
theorem dX12_keep_70 : decode cX12_keep 70 = .ok (.iload_n 3, 1) := dq29 bw_cX12_keep_2 22 rfl rfl
theorem dX12_keep_71 : decode cX12_keep 71 = .ok (.aload_n 0, 1) := dq42 bw_cX12_keep_2 23 rfl rfl
theorem bw_cX12_keep_3 : dq_w cX12_keep 72 [180, 0, 21, 162, 0, 12, 42, 180, 0, 104, 29, 46, 167, 0, 4, 2, 79, 132, 3, 1, 167, 255, 219, 4, 172] = true := by decide +kernel
theorem dX12_keep_72 : decode cX12_keep 72 = .ok (.getfield 21, 3) := dq180 bw_cX12_keep_3 0 rfl rfl rfl
theorem dX12_keep_75 : decode cX12_keep 75 = .ok (.if_icmp .ge 12, 3) := dq162 bw_cX12_keep_3 3 rfl rfl rfl
theorem dX12_keep_78 : decode cX12_keep 78 = .ok (.aload_n 0, 1) := dq42 bw_cX12_keep_3 6 rfl rfl
theorem dX12_keep_79 : decode cX12_keep 79 = .ok (.getfield 104, 3) := dq180 bw_cX12_keep_3 7 rfl rfl rfl
theorem dX12_keep_82 : decode cX12_keep 82 = .ok (.iload_n 3, 1) := dq29 bw_cX12_keep_3 10 rfl rfl
theorem dX12_keep_83 : decode cX12_keep 83 = .ok (.iaload, 1) := dq46 bw_cX12_keep_3 11 rfl rfl
theorem dX12_keep_84 : decode cX12_keep 84 = .ok (.goto 4, 3) := dq167 bw_cX12_keep_3 12 rfl rfl rfl
theorem dX12_keep_87 : decode cX12_keep 87 = .ok (.iconst (-1), 1) := dq2 bw_cX12_keep_3 15 rfl rfl
theorem dX12_keep_88 : decode cX12_keep 88 = .ok (.iastore, 1) := dq79 bw_cX12_keep_3 16 rfl rfl
theorem dX12_keep_89 : decode cX12_keep 89 = .ok (.iinc 3 1, 3) := dq132 bw_cX12_keep_3 17 rfl rfl rfl
theorem dX12_keep_92 : decode cX12_keep 92 = .ok (.goto (-37), 3) := dq167 bw_cX12_keep_3 20 rfl rfl rfl
theorem dX12_keep_95 : decode cX12_keep 95 = .ok (.iconst 1, 1) := dq4 bw_cX12_keep_3 23 rfl rfl
theorem bw_cX12_keep_4 : dq_w cX12_keep 96 [172] = true := by decide +kernel
theorem dX12_keep_96 : decode cX12_keep 96 = .ok (.ireturn, 1) := dq172 bw_cX12_keep_4 0 rfl rfl
theorem bw_cX12_again_0 : dq_w cX12_again 0 [42, 3, 181, 0, 3, 27, 133, 9, 20, 1, 152, 184, 0, 17, 153, 0, 12, 42, 180, 1, 154, 27, 51, 154, 0, 5, 3] = true := by decide +kernel
theorem dX12_again_0 : decode cX12_again 0 = .ok (.aload_n 0, 1) := dq42 bw_cX12_again_0 0 rfl rfl
theorem dX12_again_1 : decode cX12_again 1 = .ok (.iconst 0, 1) := dq3 bw_cX12_again_0 1 rfl rfl
theorem dX12_again_2 : decode cX12_again 2 = .ok (.putfield 3, 3) := dq181 bw_cX12_again_0 2 rfl rfl rfl
theorem dX12_again_5 : decode cX12_again 5 = .ok (.iload_n 1, 1) := dq27 bw_cX12_again_0 5 rfl rfl
theorem dX12_again_6 : decode cX12_again 6 = .ok (.i2l, 1) := dq133 bw_cX12_again_0 6 rfl rfl
theorem dX12_again_7 : decode cX12_again 7 = .ok (.lconst 0, 1) := dq9 bw_cX12_again_0 7 rfl rfl
theorem dX12_again_8 : decode cX12_again 8 = .ok (.ldc2_w 408, 3) := dq20 bw_cX12_again_0 8 rfl rfl rfl
theorem dX12_again_11 : decode cX12_again 11 = .ok (.invokestatic 17, 3) := dq184 bw_cX12_again_0 11 rfl rfl rfl
theorem dX12_again_14 : decode cX12_again 14 = .ok (.ifCond .eq 12, 3) := dq153 bw_cX12_again_0 14 rfl rfl rfl
theorem dX12_again_17 : decode cX12_again 17 = .ok (.aload_n 0, 1) := dq42 bw_cX12_again_0 17 rfl rfl
theorem dX12_again_18 : decode cX12_again 18 = .ok (.getfield 410, 3) := dq180 bw_cX12_again_0 18 rfl rfl rfl
theorem dX12_again_21 : decode cX12_again 21 = .ok (.iload_n 1, 1) := dq27 bw_cX12_again_0 21 rfl rfl
theorem dX12_again_22 : decode cX12_again 22 = .ok (.baload, 1) := dq51 bw_cX12_again_0 22 rfl rfl
theorem dX12_again_23 : decode cX12_again 23 = .ok (.ifCond .ne 5, 3) := dq154 bw_cX12_again_0 23 rfl rfl rfl
theorem bw_cX12_again_1 : dq_w cX12_again 24 [0, 5, 3, 172, 16, 16, 27, 104, 61, 42, 42, 180, 1, 158, 28, 46, 181, 0, 177, 42, 42, 180, 1, 158, 28, 4, 96] = true := by decide +kernel
theorem dX12_again_26 : decode cX12_again 26 = .ok (.iconst 0, 1) := dq3 bw_cX12_again_1 2 rfl rfl
theorem dX12_again_27 : decode cX12_again 27 = .ok (.ireturn, 1) := dq172 bw_cX12_again_1 3 rfl rfl
theorem dX12_again_28 : decode cX12_again 28 = .ok (.bipush 16, 2) := dq16 bw_cX12_again_1 4 rfl rfl rfl
theorem dX12_again_30 : decode cX12_again 30 = .ok (.iload_n 1, 1) := dq27 bw_cX12_again_1 6 rfl rfl
theorem dX12_again_31 : decode cX12_again 31 = .ok (.imul, 1) := dq104 bw_cX12_again_1 7 rfl rfl
theorem dX12_again_32 : decode cX12_again 32 = .ok (.istore_n 2, 1) := dq61 bw_cX12_again_1 8 rfl rfl
theorem dX12_again_33 : decode cX12_again 33 = .ok (.aload_n 0, 1) := dq42 bw_cX12_again_1 9 rfl rfl
theorem dX12_again_34 : decode cX12_again 34 = .ok (.aload_n 0, 1) := dq42 bw_cX12_again_1 10 rfl rfl
theorem dX12_again_35 : decode cX12_again 35 = .ok (.getfield 414, 3) := dq180 bw_cX12_again_1 11 rfl rfl rfl
theorem dX12_again_38 : decode cX12_again 38 = .ok (.iload_n 2, 1) := dq28 bw_cX12_again_1 14 rfl rfl
theorem dX12_again_39 : decode cX12_again 39 = .ok (.iaload, 1) := dq46 bw_cX12_again_1 15 rfl rfl
theorem dX12_again_40 : decode cX12_again 40 = .ok (.putfield 177, 3) := dq181 bw_cX12_again_1 16 rfl rfl rfl
theorem dX12_again_43 : decode cX12_again 43 = .ok (.aload_n 0, 1) := dq42 bw_cX12_again_1 19 rfl rfl
theorem dX12_again_44 : decode cX12_again 44 = .ok (.aload_n 0, 1) := dq42 bw_cX12_again_1 20 rfl rfl
theorem dX12_again_45 : decode cX12_again 45 = .ok (.getfield 414, 3) := dq180 bw_cX12_again_1 21 rfl rfl rfl
theorem bw_cX12_again_2 : dq_w cX12_again 48 [28, 4, 96, 46, 181, 0, 148, 3, 62, 29, 16, 14, 162, 0, 25, 42, 180, 0, 104, 29, 42, 180, 1, 158, 28, 5, 96] = true := by decide +kernel
theorem dX12_again_48 : decode cX12_again 48 = .ok (.iload_n 2, 1) := dq28 bw_cX12_again_2 0 rfl rfl
theorem dX12_again_49 : decode cX12_again 49 = .ok (.iconst 1, 1) := dq4 bw_cX12_again_2 1 rfl rfl
theorem dX12_again_50 : decode cX12_again 50 = .ok (.iadd, 1) := dq96 bw_cX12_again_2 2 rfl rfl
theorem dX12_again_51 : decode cX12_again 51 = .ok (.iaload, 1) := dq46 bw_cX12_again_2 3 rfl rfl
theorem dX12_again_52 : decode cX12_again 52 = .ok (.putfield 148, 3) := dq181 bw_cX12_again_2 4 rfl rfl rfl
theorem dX12_again_55 : decode cX12_again 55 = .ok (.iconst 0, 1) := dq3 bw_cX12_again_2 7 rfl rfl
theorem dX12_again_56 : decode cX12_again 56 = .ok (.istore_n 3, 1) := dq62 bw_cX12_again_2 8 rfl rfl
theorem dX12_again_57 : decode cX12_again 57 = .ok (.iload_n 3, 1) := dq29 bw_cX12_again_2 9 rfl rfl
theorem dX12_again_58 : decode cX12_again 58 = .ok (.bipush 14, 2) := dq16 bw_cX12_again_2 10 rfl rfl rfl
theorem dX12_again_60 : decode cX12_again 60 = .ok (.if_icmp .ge 25, 3) := dq162 bw_cX12_again_2 12 rfl rfl rfl
theorem dX12_again_63 : decode cX12_again 63 = .ok (.aload_n 0, 1) := dq42 bw_cX12_again_2 15 rfl rfl
theorem dX12_again_64 : decode cX12_again 64 = .ok (.getfield 104, 3) := dq180 bw_cX12_again_2 16 rfl rfl rfl
theorem dX12_again_67 : decode cX12_again 67 = .ok (.iload_n 3, 1) := dq29 bw_cX12_again_2 19 rfl rfl
theorem dX12_again_68 : decode cX12_again 68 = .ok (.aload_n 0, 1) := dq42 bw_cX12_again_2 20 rfl rfl
theorem dX12_again_69 : decode cX12_again 69 = .ok (.getfield 414, 3) := dq180 bw_cX12_again_2 21 rfl rfl rfl
theorem bw_cX12_again_3 : dq_w cX12_again 72 [28, 5, 96, 29, 96, 46, 79, 132, 3, 1, 167, 255, 231, 42, 3, 181, 0, 126, 4, 172] = true := by decide +kernel
theorem dX12_again_72 : decode cX12_again 72 = .ok (.iload_n 2, 1) := dq28 bw_cX12_again_3 0 rfl rfl
theorem dX12_again_73 : decode cX12_again 73 = .ok (.iconst 2, 1) := dq5 bw_cX12_again_3 1 rfl rfl
theorem dX12_again_74 : decode cX12_again 74 = .ok (.iadd, 1) := dq96 bw_cX12_again_3 2 rfl rfl
theorem dX12_again_75 : decode cX12_again 75 = .ok (.iload_n 3, 1) := dq29 bw_cX12_again_3 3 rfl rfl
theorem dX12_again_76 : decode cX12_again 76 = .ok (.iadd, 1) := dq96 bw_cX12_again_3 4 rfl rfl
theorem dX12_again_77 : decode cX12_again 77 = .ok (.iaload, 1) := dq46 bw_cX12_again_3 5 rfl rfl
theorem dX12_again_78 : decode cX12_again 78 = .ok (.iastore, 1) := dq79 bw_cX12_again_3 6 rfl rfl
theorem dX12_again_79 : decode cX12_again 79 = .ok (.iinc 3 1, 3) := dq132 bw_cX12_again_3 7 rfl rfl rfl
theorem dX12_again_82 : decode cX12_again 82 = .ok (.goto (-25), 3) := dq167 bw_cX12_again_3 10 rfl rfl rfl
theorem dX12_again_85 : decode cX12_again 85 = .ok (.aload_n 0, 1) := dq42 bw_cX12_again_3 13 rfl rfl
theorem dX12_again_86 : decode cX12_again 86 = .ok (.iconst 0, 1) := dq3 bw_cX12_again_3 14 rfl rfl
theorem dX12_again_87 : decode cX12_again 87 = .ok (.putfield 126, 3) := dq181 bw_cX12_again_3 15 rfl rfl rfl
theorem dX12_again_90 : decode cX12_again 90 = .ok (.iconst 1, 1) := dq4 bw_cX12_again_3 18 rfl rfl
theorem dX12_again_91 : decode cX12_again 91 = .ok (.ireturn, 1) := dq172 bw_cX12_again_3 19 rfl rfl
theorem bw_cX12_count_0 : dq_w cX12_count 0 [42, 3, 181, 0, 3, 27, 170, 0, 0, 0, 0, 115, 0, 0, 0, 0, 0, 0, 0, 9, 0, 0, 0, 54, 0, 0, 0] = true := by decide +kernel
theorem dX12_count_0 : decode cX12_count 0 = .ok (.aload_n 0, 1) := dq42 bw_cX12_count_0 0 rfl rfl
theorem dX12_count_1 : decode cX12_count 1 = .ok (.iconst 0, 1) := dq3 bw_cX12_count_0 1 rfl rfl
theorem dX12_count_2 : decode cX12_count 2 = .ok (.putfield 3, 3) := dq181 bw_cX12_count_0 2 rfl rfl rfl
theorem dX12_count_5 : decode cX12_count 5 = .ok (.iload_n 1, 1) := dq27 bw_cX12_count_0 5 rfl rfl
theorem dX12_count_6 : decode cX12_count 6 = .ok (.tableswitch 115 0 9 #[54, 59, 64, 80, 85, 90, 95, 100, 105, 110], 54) := by decide +kernel
theorem bw_cX12_count_2 : dq_w cX12_count 48 [0, 0, 0, 100, 0, 0, 0, 105, 0, 0, 0, 110, 42, 180, 0, 14, 172, 42, 180, 0, 21, 172, 42, 180, 0, 14, 154] = true := by decide +kernel
theorem dX12_count_60 : decode cX12_count 60 = .ok (.aload_n 0, 1) := dq42 bw_cX12_count_2 12 rfl rfl
theorem dX12_count_61 : decode cX12_count 61 = .ok (.getfield 14, 3) := dq180 bw_cX12_count_2 13 rfl rfl rfl
theorem dX12_count_64 : decode cX12_count 64 = .ok (.ireturn, 1) := dq172 bw_cX12_count_2 16 rfl rfl
theorem dX12_count_65 : decode cX12_count 65 = .ok (.aload_n 0, 1) := dq42 bw_cX12_count_2 17 rfl rfl
theorem dX12_count_66 : decode cX12_count 66 = .ok (.getfield 21, 3) := dq180 bw_cX12_count_2 18 rfl rfl rfl
theorem dX12_count_69 : decode cX12_count 69 = .ok (.ireturn, 1) := dq172 bw_cX12_count_2 21 rfl rfl
theorem dX12_count_70 : decode cX12_count 70 = .ok (.aload_n 0, 1) := dq42 bw_cX12_count_2 22 rfl rfl
theorem dX12_count_71 : decode cX12_count 71 = .ok (.getfield 14, 3) := dq180 bw_cX12_count_2 23 rfl rfl rfl
theorem bw_cX12_count_3 : dq_w cX12_count 72 [0, 14, 154, 0, 7, 2, 167, 0, 7, 42, 180, 0, 177, 172, 42, 180, 0, 148, 172, 42, 180, 0, 126, 172, 42, 180, 1] = true := by decide +kernel
theorem dX12_count_74 : decode cX12_count 74 = .ok (.ifCond .ne 7, 3) := dq154 bw_cX12_count_3 2 rfl rfl rfl
theorem dX12_count_77 : decode cX12_count 77 = .ok (.iconst (-1), 1) := dq2 bw_cX12_count_3 5 rfl rfl
theorem dX12_count_78 : decode cX12_count 78 = .ok (.goto 7, 3) := dq167 bw_cX12_count_3 6 rfl rfl rfl
theorem dX12_count_81 : decode cX12_count 81 = .ok (.aload_n 0, 1) := dq42 bw_cX12_count_3 9 rfl rfl
theorem dX12_count_82 : decode cX12_count 82 = .ok (.getfield 177, 3) := dq180 bw_cX12_count_3 10 rfl rfl rfl
theorem dX12_count_85 : decode cX12_count 85 = .ok (.ireturn, 1) := dq172 bw_cX12_count_3 13 rfl rfl
theorem dX12_count_86 : decode cX12_count 86 = .ok (.aload_n 0, 1) := dq42 bw_cX12_count_3 14 rfl rfl
theorem dX12_count_87 : decode cX12_count 87 = .ok (.getfield 148, 3) := dq180 bw_cX12_count_3 15 rfl rfl rfl
theorem dX12_count_90 : decode cX12_count 90 = .ok (.ireturn, 1) := dq172 bw_cX12_count_3 18 rfl rfl
theorem dX12_count_91 : decode cX12_count 91 = .ok (.aload_n 0, 1) := dq42 bw_cX12_count_3 19 rfl rfl
theorem dX12_count_92 : decode cX12_count 92 = .ok (.getfield 126, 3) := dq180 bw_cX12_count_3 20 rfl rfl rfl
theorem dX12_count_95 : decode cX12_count 95 = .ok (.ireturn, 1) := dq172 bw_cX12_count_3 23 rfl rfl
theorem bw_cX12_count_4 : dq_w cX12_count 96 [42, 180, 1, 125, 172, 42, 180, 0, 11, 172, 42, 180, 0, 24, 172, 42, 180, 0, 132, 172, 42, 180, 0, 169, 172, 2, 172] = true := by decide +kernel
theorem dX12_count_96 : decode cX12_count 96 = .ok (.aload_n 0, 1) := dq42 bw_cX12_count_4 0 rfl rfl
theorem dX12_count_97 : decode cX12_count 97 = .ok (.getfield 381, 3) := dq180 bw_cX12_count_4 1 rfl rfl rfl
theorem dX12_count_100 : decode cX12_count 100 = .ok (.ireturn, 1) := dq172 bw_cX12_count_4 4 rfl rfl
theorem dX12_count_101 : decode cX12_count 101 = .ok (.aload_n 0, 1) := dq42 bw_cX12_count_4 5 rfl rfl
theorem dX12_count_102 : decode cX12_count 102 = .ok (.getfield 11, 3) := dq180 bw_cX12_count_4 6 rfl rfl rfl
theorem dX12_count_105 : decode cX12_count 105 = .ok (.ireturn, 1) := dq172 bw_cX12_count_4 9 rfl rfl
theorem dX12_count_106 : decode cX12_count 106 = .ok (.aload_n 0, 1) := dq42 bw_cX12_count_4 10 rfl rfl
theorem dX12_count_107 : decode cX12_count 107 = .ok (.getfield 24, 3) := dq180 bw_cX12_count_4 11 rfl rfl rfl
theorem dX12_count_110 : decode cX12_count 110 = .ok (.ireturn, 1) := dq172 bw_cX12_count_4 14 rfl rfl
theorem dX12_count_111 : decode cX12_count 111 = .ok (.aload_n 0, 1) := dq42 bw_cX12_count_4 15 rfl rfl
theorem dX12_count_112 : decode cX12_count 112 = .ok (.getfield 132, 3) := dq180 bw_cX12_count_4 16 rfl rfl rfl
theorem dX12_count_115 : decode cX12_count 115 = .ok (.ireturn, 1) := dq172 bw_cX12_count_4 19 rfl rfl
theorem dX12_count_116 : decode cX12_count 116 = .ok (.aload_n 0, 1) := dq42 bw_cX12_count_4 20 rfl rfl
theorem dX12_count_117 : decode cX12_count 117 = .ok (.getfield 169, 3) := dq180 bw_cX12_count_4 21 rfl rfl rfl
theorem bw_cX12_count_5 : dq_w cX12_count 120 [172, 2, 172] = true := by decide +kernel
theorem dX12_count_120 : decode cX12_count 120 = .ok (.ireturn, 1) := dq172 bw_cX12_count_5 0 rfl rfl
theorem dX12_count_121 : decode cX12_count 121 = .ok (.iconst (-1), 1) := dq2 bw_cX12_count_5 1 rfl rfl
theorem dX12_count_122 : decode cX12_count 122 = .ok (.ireturn, 1) := dq172 bw_cX12_count_5 2 rfl rfl
theorem bw_cX12_row_0 : dq_w cX12_row 0 [42, 3, 181, 0, 3, 27, 133, 9, 42, 180, 0, 11, 4, 100, 133, 184, 0, 17, 154, 0, 10, 42, 4, 181, 0, 3, 3] = true := by decide +kernel
theorem dX12_row_0 : decode cX12_row 0 = .ok (.aload_n 0, 1) := dq42 bw_cX12_row_0 0 rfl rfl
theorem dX12_row_1 : decode cX12_row 1 = .ok (.iconst 0, 1) := dq3 bw_cX12_row_0 1 rfl rfl
theorem dX12_row_2 : decode cX12_row 2 = .ok (.putfield 3, 3) := dq181 bw_cX12_row_0 2 rfl rfl rfl
theorem dX12_row_5 : decode cX12_row 5 = .ok (.iload_n 1, 1) := dq27 bw_cX12_row_0 5 rfl rfl
theorem dX12_row_6 : decode cX12_row 6 = .ok (.i2l, 1) := dq133 bw_cX12_row_0 6 rfl rfl
theorem dX12_row_7 : decode cX12_row 7 = .ok (.lconst 0, 1) := dq9 bw_cX12_row_0 7 rfl rfl
theorem dX12_row_8 : decode cX12_row 8 = .ok (.aload_n 0, 1) := dq42 bw_cX12_row_0 8 rfl rfl
theorem dX12_row_9 : decode cX12_row 9 = .ok (.getfield 11, 3) := dq180 bw_cX12_row_0 9 rfl rfl rfl
theorem dX12_row_12 : decode cX12_row 12 = .ok (.iconst 1, 1) := dq4 bw_cX12_row_0 12 rfl rfl
theorem dX12_row_13 : decode cX12_row 13 = .ok (.isub, 1) := dq100 bw_cX12_row_0 13 rfl rfl
theorem dX12_row_14 : decode cX12_row 14 = .ok (.i2l, 1) := dq133 bw_cX12_row_0 14 rfl rfl
theorem dX12_row_15 : decode cX12_row 15 = .ok (.invokestatic 17, 3) := dq184 bw_cX12_row_0 15 rfl rfl rfl
theorem dX12_row_18 : decode cX12_row 18 = .ok (.ifCond .ne 10, 3) := dq154 bw_cX12_row_0 18 rfl rfl rfl
theorem dX12_row_21 : decode cX12_row 21 = .ok (.aload_n 0, 1) := dq42 bw_cX12_row_0 21 rfl rfl
theorem dX12_row_22 : decode cX12_row 22 = .ok (.iconst 1, 1) := dq4 bw_cX12_row_0 22 rfl rfl
theorem dX12_row_23 : decode cX12_row 23 = .ok (.putfield 3, 3) := dq181 bw_cX12_row_0 23 rfl rfl rfl
theorem bw_cX12_row_1 : dq_w cX12_row 24 [0, 3, 3, 172, 42, 180, 0, 7, 27, 46, 172] = true := by decide +kernel
theorem dX12_row_26 : decode cX12_row 26 = .ok (.iconst 0, 1) := dq3 bw_cX12_row_1 2 rfl rfl
theorem dX12_row_27 : decode cX12_row 27 = .ok (.ireturn, 1) := dq172 bw_cX12_row_1 3 rfl rfl
theorem dX12_row_28 : decode cX12_row 28 = .ok (.aload_n 0, 1) := dq42 bw_cX12_row_1 4 rfl rfl
theorem dX12_row_29 : decode cX12_row 29 = .ok (.getfield 7, 3) := dq180 bw_cX12_row_1 5 rfl rfl rfl
theorem dX12_row_32 : decode cX12_row 32 = .ok (.iload_n 1, 1) := dq27 bw_cX12_row_1 8 rfl rfl
theorem dX12_row_33 : decode cX12_row 33 = .ok (.iaload, 1) := dq46 bw_cX12_row_1 9 rfl rfl
theorem dX12_row_34 : decode cX12_row 34 = .ok (.ireturn, 1) := dq172 bw_cX12_row_1 10 rfl rfl
